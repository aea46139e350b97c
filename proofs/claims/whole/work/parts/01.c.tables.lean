def tbX0_size : TB := [(0, .aload_n 0, 1, []), (1, .getfield 16, 3, []), (4, .ireturn, 1, [])]
theorem tbX0_size_ok : tbOK cX0_size tbX0_size = true := by decide +kernel
def tbX0_forget : TB := [(0, .aload_n 0, 1, []), (1, .iconst 0, 1, []), (2, .putfield 20, 3, []), (5, .aload_n 0, 1, []), (6, .iconst 0, 1, []), (7, .putfield 16, 3, []), (10, .return_, 1, [])]
theorem tbX0_forget_ok : tbOK cX0_forget tbX0_forget = true := by decide +kernel
def tbX0_record : TB := [(0, .aload_n 0, 1, []), (1, .getfield 16, 3, []), (4, .bipush 12, 2, []), (6, .if_icmp .ne 22, 3, [28]), (9, .aload_n 0, 1, []), (10, .aload_n 0, 1, []), (11, .iconst 1, 1, []), (12, .invokevirtual 23, 3, []), (15, .putfield 20, 3, []), (18, .aload_n 0, 1, []), (19, .dup, 1, []), (20, .getfield 16, 3, []), (23, .iconst 1, 1, []), (24, .isub, 1, []), (25, .putfield 16, 3, []), (28, .aload_n 1, 1, []), (29, .iconst 0, 1, []), (30, .aload_n 0, 1, []), (31, .getfield 11, 3, []), (34, .aload_n 0, 1, []), (35, .aload_n 0, 1, []), (36, .getfield 16, 3, []), (39, .invokevirtual 23, 3, []), (42, .aaload, 1, []), (43, .iconst 0, 1, []), (44, .sipush 144, 3, []), (47, .invokestatic 27, 3, []), (50, .aload_n 0, 1, []), (51, .dup, 1, []), (52, .getfield 16, 3, []), (55, .iconst 1, 1, []), (56, .iadd, 1, []), (57, .putfield 16, 3, []), (60, .return_, 1, [])]
theorem tbX0_record_ok : tbOK cX0_record tbX0_record = true := by decide +kernel
def tbX0_restore : TB := [(0, .aload_n 0, 1, []), (1, .getfield 16, 3, []), (4, .ifCond .le 35, 3, [39]), (7, .aload_n 0, 1, []), (8, .dup, 1, []), (9, .getfield 16, 3, []), (12, .iconst 1, 1, []), (13, .isub, 1, []), (14, .putfield 16, 3, []), (17, .aload_n 0, 1, []), (18, .getfield 11, 3, []), (21, .aload_n 0, 1, []), (22, .aload_n 0, 1, []), (23, .getfield 16, 3, []), (26, .invokevirtual 23, 3, []), (29, .aaload, 1, []), (30, .iconst 0, 1, []), (31, .aload_n 1, 1, []), (32, .iconst 0, 1, []), (33, .sipush 144, 3, []), (36, .invokestatic 27, 3, []), (39, .return_, 1, [])]
theorem tbX0_restore_ok : tbOK cX0_restore tbX0_restore = true := by decide +kernel
def tbX0_place : TB := [(0, .aload_n 0, 1, []), (1, .getfield 20, 3, []), (4, .iload_n 1, 1, []), (5, .iadd, 1, []), (6, .istore_n 2, 1, []), (7, .iload_n 2, 1, []), (8, .bipush 12, 2, []), (10, .if_icmp .ge 7, 3, [17]), (13, .iload_n 2, 1, []), (14, .goto 7, 3, [21]), (17, .iload_n 2, 1, []), (18, .bipush 12, 2, []), (20, .isub, 1, []), (21, .ireturn, 1, [])]
theorem tbX0_place_ok : tbOK cX0_place tbX0_place = true := by decide +kernel
def tbX1_number : TB := [(0, .aload_n 0, 1, []), (1, .getfield 42, 3, []), (4, .ireturn, 1, [])]
theorem tbX1_number_ok : tbOK cX1_number tbX1_number = true := by decide +kernel
def tbX1_labelOf : TB := [(0, .aload_n 0, 1, []), (1, .getfield 9, 3, []), (4, .iload_n 1, 1, []), (5, .iaload, 1, []), (6, .ireturn, 1, [])]
theorem tbX1_labelOf_ok : tbOK cX1_labelOf tbX1_labelOf = true := by decide +kernel
def tbX1_sizeOf : TB := [(0, .aload_n 0, 1, []), (1, .getfield 15, 3, []), (4, .iload_n 1, 1, []), (5, .iaload, 1, []), (6, .ireturn, 1, [])]
theorem tbX1_sizeOf_ok : tbOK cX1_sizeOf tbX1_sizeOf = true := by decide +kernel
def tbX1_find : TB := [(0, .iconst 0, 1, []), (1, .istore_n 1, 1, []), (2, .iload_n 1, 1, []), (3, .aload_n 0, 1, []), (4, .getfield 35, 3, []), (7, .invokevirtual 46, 3, []), (10, .if_icmp .ge 17, 3, [27]), (13, .aload_n 0, 1, []), (14, .getfield 9, 3, []), (17, .iload_n 1, 1, []), (18, .bipush (-5), 2, []), (20, .iastore, 1, []), (21, .iinc 1 1, 3, []), (24, .goto (-22), 3, [2]), (27, .aload_n 0, 1, []), (28, .iconst 0, 1, []), (29, .putfield 42, 3, []), (32, .iconst 0, 1, []), (33, .istore_n 1, 1, []), (34, .iload_n 1, 1, []), (35, .aload_n 0, 1, []), (36, .getfield 35, 3, []), (39, .invokevirtual 46, 3, []), (42, .if_icmp .ge 35, 3, [77]), (45, .aload_n 0, 1, []), (46, .getfield 9, 3, []), (49, .iload_n 1, 1, []), (50, .iaload, 1, []), (51, .bipush (-5), 2, []), (53, .if_icmp .ne 18, 3, [71]), (56, .aload_n 0, 1, []), (57, .iload_n 1, 1, []), (58, .invokevirtual 52, 3, []), (61, .aload_n 0, 1, []), (62, .dup, 1, []), (63, .getfield 42, 3, []), (66, .iconst 1, 1, []), (67, .iadd, 1, []), (68, .putfield 42, 3, []), (71, .iinc 1 1, 3, []), (74, .goto (-40), 3, [34]), (77, .return_, 1, [])]
theorem tbX1_find_ok : tbOK cX1_find tbX1_find = true := by decide +kernel
def tbX1_flood : TB := [(0, .aload_n 0, 1, []), (1, .getfield 31, 3, []), (4, .invokevirtual 56, 3, []), (7, .aload_n 0, 1, []), (8, .iload_n 1, 1, []), (9, .iload_n 1, 1, []), (10, .iconst 0, 1, []), (11, .iconst 0, 1, []), (12, .invokevirtual 59, 3, []), (15, .iconst 0, 1, []), (16, .istore_n 2, 1, []), (17, .iload_n 2, 1, []), (18, .sipush 144, 3, []), (21, .if_icmp .ge 32, 3, [53]), (24, .iload_n 2, 1, []), (25, .aload_n 0, 1, []), (26, .getfield 31, 3, []), (29, .invokevirtual 63, 3, []), (32, .if_icmp .ge 21, 3, [53]), (35, .aload_n 0, 1, []), (36, .aload_n 0, 1, []), (37, .getfield 31, 3, []), (40, .iload_n 2, 1, []), (41, .invokevirtual 65, 3, []), (44, .invokevirtual 69, 3, []), (47, .iinc 2 1, 3, []), (50, .goto (-33), 3, [17]), (53, .aload_n 0, 1, []), (54, .getfield 15, 3, []), (57, .iload_n 1, 1, []), (58, .aload_n 0, 1, []), (59, .getfield 31, 3, []), (62, .invokevirtual 63, 3, []), (65, .iastore, 1, []), (66, .return_, 1, [])]
theorem tbX1_flood_ok : tbOK cX1_flood tbX1_flood = true := by decide +kernel
def tbX1_enter : TB := [(0, .aload_n 0, 1, []), (1, .getfield 9, 3, []), (4, .iload_n 1, 1, []), (5, .iload_n 2, 1, []), (6, .iastore, 1, []), (7, .aload_n 0, 1, []), (8, .getfield 18, 3, []), (11, .iload_n 1, 1, []), (12, .iload_n 3, 1, []), (13, .iastore, 1, []), (14, .aload_n 0, 1, []), (15, .getfield 21, 3, []), (18, .iload_n 1, 1, []), (19, .iload 4, 2, []), (21, .iastore, 1, []), (22, .aload_n 0, 1, []), (23, .getfield 31, 3, []), (26, .iload_n 1, 1, []), (27, .invokevirtual 72, 3, []), (30, .return_, 1, [])]
theorem tbX1_enter_ok : tbOK cX1_enter tbX1_enter = true := by decide +kernel
def tbX1_spread : TB := [(0, .iconst 0, 1, []), (1, .istore_n 2, 1, []), (2, .iload_n 2, 1, []), (3, .iconst 4, 1, []), (4, .if_icmp .ge 88, 3, [92]), (7, .aload_n 0, 1, []), (8, .getfield 35, 3, []), (11, .iload_n 1, 1, []), (12, .iload_n 2, 1, []), (13, .invokevirtual 75, 3, []), (16, .istore_n 3, 1, []), (17, .iload_n 3, 1, []), (18, .ifCond .lt 68, 3, [86]), (21, .aload_n 0, 1, []), (22, .getfield 39, 3, []), (25, .iload_n 3, 1, []), (26, .iaload, 1, []), (27, .aload_n 0, 1, []), (28, .getfield 39, 3, []), (31, .iload_n 1, 1, []), (32, .iaload, 1, []), (33, .if_icmp .ne 53, 3, [86]), (36, .aload_n 0, 1, []), (37, .getfield 9, 3, []), (40, .iload_n 3, 1, []), (41, .iaload, 1, []), (42, .bipush (-5), 2, []), (44, .if_icmp .ne 42, 3, [86]), (47, .aload_n 0, 1, []), (48, .getfield 21, 3, []), (51, .iload_n 1, 1, []), (52, .iaload, 1, []), (53, .aload_n 0, 1, []), (54, .getfield 35, 3, []), (57, .iload_n 1, 1, []), (58, .iload_n 2, 1, []), (59, .invokevirtual 79, 3, []), (62, .ixor, 1, []), (63, .istore 4, 2, []), (65, .aload_n 0, 1, []), (66, .iload_n 3, 1, []), (67, .aload_n 0, 1, []), (68, .getfield 9, 3, []), (71, .iload_n 1, 1, []), (72, .iaload, 1, []), (73, .aload_n 0, 1, []), (74, .getfield 18, 3, []), (77, .iload_n 1, 1, []), (78, .iaload, 1, []), (79, .iconst 1, 1, []), (80, .iadd, 1, []), (81, .iload 4, 2, []), (83, .invokevirtual 59, 3, []), (86, .iinc 2 1, 3, []), (89, .goto (-87), 3, [2]), (92, .return_, 1, [])]
theorem tbX1_spread_ok : tbOK cX1_spread tbX1_spread = true := by decide +kernel
def tbX1_changesSince : TB := [(0, .iconst 0, 1, []), (1, .istore_n 3, 1, []), (2, .iconst 0, 1, []), (3, .istore 4, 2, []), (5, .iload 4, 2, []), (7, .aload_n 0, 1, []), (8, .getfield 35, 3, []), (11, .invokevirtual 46, 3, []), (14, .if_icmp .ge 35, 3, [49]), (17, .iload 4, 2, []), (19, .iload_n 2, 1, []), (20, .if_icmp .eq 23, 3, [43]), (23, .aload_n 0, 1, []), (24, .getfield 9, 3, []), (27, .iload 4, 2, []), (29, .iaload, 1, []), (30, .aload_n 1, 1, []), (31, .getfield 9, 3, []), (34, .iload 4, 2, []), (36, .iaload, 1, []), (37, .if_icmp .eq 6, 3, [43]), (40, .iinc 3 1, 3, []), (43, .iinc 4 1, 3, []), (46, .goto (-41), 3, [5]), (49, .iload_n 3, 1, []), (50, .ireturn, 1, [])]
theorem tbX1_changesSince_ok : tbOK cX1_changesSince tbX1_changesSince = true := by decide +kernel
def tbX1_labelNumber : TB := [(0, .iconst 0, 1, []), (1, .istore_n 2, 1, []), (2, .iconst 0, 1, []), (3, .istore_n 3, 1, []), (4, .iload_n 3, 1, []), (5, .aload_n 0, 1, []), (6, .getfield 35, 3, []), (9, .invokevirtual 46, 3, []), (12, .if_icmp .ge 29, 3, [41]), (15, .aload_n 0, 1, []), (16, .getfield 9, 3, []), (19, .iload_n 3, 1, []), (20, .iaload, 1, []), (21, .iload_n 3, 1, []), (22, .if_icmp .ne 13, 3, [35]), (25, .iload_n 2, 1, []), (26, .iload_n 1, 1, []), (27, .if_icmp .ne 5, 3, [32]), (30, .iload_n 3, 1, []), (31, .ireturn, 1, []), (32, .iinc 2 1, 3, []), (35, .iinc 3 1, 3, []), (38, .goto (-34), 3, [4]), (41, .bipush (-5), 2, []), (43, .ireturn, 1, [])]
theorem tbX1_labelNumber_ok : tbOK cX1_labelNumber tbX1_labelNumber = true := by decide +kernel
def tbX1_greatestOf : TB := [(0, .bipush (-5), 2, []), (2, .istore_n 2, 1, []), (3, .iconst 0, 1, []), (4, .istore_n 3, 1, []), (5, .iload_n 3, 1, []), (6, .aload_n 0, 1, []), (7, .getfield 35, 3, []), (10, .invokevirtual 46, 3, []), (13, .if_icmp .ge 52, 3, [65]), (16, .aload_n 0, 1, []), (17, .getfield 9, 3, []), (20, .iload_n 3, 1, []), (21, .iaload, 1, []), (22, .iload_n 3, 1, []), (23, .if_icmp .ne 36, 3, [59]), (26, .aload_n 0, 1, []), (27, .getfield 39, 3, []), (30, .iload_n 3, 1, []), (31, .iaload, 1, []), (32, .iload_n 1, 1, []), (33, .if_icmp .ne 26, 3, [59]), (36, .iload_n 2, 1, []), (37, .bipush (-5), 2, []), (39, .if_icmp .eq 18, 3, [57]), (42, .aload_n 0, 1, []), (43, .getfield 15, 3, []), (46, .iload_n 3, 1, []), (47, .iaload, 1, []), (48, .aload_n 0, 1, []), (49, .getfield 15, 3, []), (52, .iload_n 2, 1, []), (53, .iaload, 1, []), (54, .if_icmp .le 5, 3, [59]), (57, .iload_n 3, 1, []), (58, .istore_n 2, 1, []), (59, .iinc 3 1, 3, []), (62, .goto (-57), 3, [5]), (65, .iload_n 2, 1, []), (66, .ireturn, 1, [])]
theorem tbX1_greatestOf_ok : tbOK cX1_greatestOf tbX1_greatestOf = true := by decide +kernel
def tbX1_property : TB := [(0, .iload_n 2, 1, []), (1, .tableswitch 95 0 6 #[43, 50, 57, 63, 69, 75, 89], 43, [96, 44, 51, 58, 64, 70, 76, 90]), (44, .aload_n 0, 1, []), (45, .getfield 39, 3, []), (48, .iload_n 1, 1, []), (49, .iaload, 1, []), (50, .ireturn, 1, []), (51, .aload_n 0, 1, []), (52, .getfield 15, 3, []), (55, .iload_n 1, 1, []), (56, .iaload, 1, []), (57, .ireturn, 1, []), (58, .aload_n 0, 1, []), (59, .iload_n 1, 1, []), (60, .invokevirtual 82, 3, []), (63, .ireturn, 1, []), (64, .aload_n 0, 1, []), (65, .iload_n 1, 1, []), (66, .invokevirtual 85, 3, []), (69, .ireturn, 1, []), (70, .aload_n 0, 1, []), (71, .iload_n 1, 1, []), (72, .invokevirtual 88, 3, []), (75, .ireturn, 1, []), (76, .aload_n 0, 1, []), (77, .iload_n 1, 1, []), (78, .invokevirtual 91, 3, []), (81, .ifCond .eq 7, 3, [88]), (84, .iconst 1, 1, []), (85, .goto 4, 3, [89]), (88, .iconst 0, 1, []), (89, .ireturn, 1, []), (90, .aload_n 0, 1, []), (91, .iload_n 1, 1, []), (92, .invokevirtual 95, 3, []), (95, .ireturn, 1, []), (96, .aload_n 0, 1, []), (97, .iload_n 1, 1, []), (98, .invokevirtual 98, 3, []), (101, .ireturn, 1, [])]
theorem tbX1_property_ok : tbOK cX1_property tbX1_property = true := by decide +kernel
def tbX1_leadsOut : TB := [(0, .aload_n 0, 1, []), (1, .getfield 35, 3, []), (4, .iload_n 1, 1, []), (5, .iload_n 2, 1, []), (6, .invokevirtual 75, 3, []), (9, .istore_n 3, 1, []), (10, .iload_n 3, 1, []), (11, .ifCond .lt 22, 3, [33]), (14, .aload_n 0, 1, []), (15, .getfield 9, 3, []), (18, .iload_n 3, 1, []), (19, .iaload, 1, []), (20, .aload_n 0, 1, []), (21, .getfield 9, 3, []), (24, .iload_n 1, 1, []), (25, .iaload, 1, []), (26, .if_icmp .eq 7, 3, [33]), (29, .iconst 1, 1, []), (30, .goto 4, 3, [34]), (33, .iconst 0, 1, []), (34, .ireturn, 1, [])]
theorem tbX1_leadsOut_ok : tbOK cX1_leadsOut tbX1_leadsOut = true := by decide +kernel
def tbX1_bordersToOthers : TB := [(0, .iconst 0, 1, []), (1, .istore_n 2, 1, []), (2, .iload_n 1, 1, []), (3, .istore_n 3, 1, []), (4, .iload_n 3, 1, []), (5, .aload_n 0, 1, []), (6, .getfield 35, 3, []), (9, .invokevirtual 46, 3, []), (12, .if_icmp .ge 47, 3, [59]), (15, .iconst 0, 1, []), (16, .istore 4, 2, []), (18, .iload 4, 2, []), (20, .iconst 4, 1, []), (21, .if_icmp .ge 32, 3, [53]), (24, .aload_n 0, 1, []), (25, .getfield 9, 3, []), (28, .iload_n 3, 1, []), (29, .iaload, 1, []), (30, .iload_n 1, 1, []), (31, .if_icmp .ne 16, 3, [47]), (34, .aload_n 0, 1, []), (35, .iload_n 3, 1, []), (36, .iload 4, 2, []), (38, .invokevirtual 101, 3, []), (41, .ifCond .eq 6, 3, [47]), (44, .iinc 2 1, 3, []), (47, .iinc 4 1, 3, []), (50, .goto (-32), 3, [18]), (53, .iinc 3 1, 3, []), (56, .goto (-52), 3, [4]), (59, .iload_n 2, 1, []), (60, .ireturn, 1, [])]
theorem tbX1_bordersToOthers_ok : tbOK cX1_bordersToOthers tbX1_bordersToOthers = true := by decide +kernel
def tbX1_bordersToNothing : TB := [(0, .iconst 0, 1, []), (1, .istore_n 2, 1, []), (2, .iload_n 1, 1, []), (3, .istore_n 3, 1, []), (4, .iload_n 3, 1, []), (5, .aload_n 0, 1, []), (6, .getfield 35, 3, []), (9, .invokevirtual 46, 3, []), (12, .if_icmp .ge 52, 3, [64]), (15, .iconst 0, 1, []), (16, .istore 4, 2, []), (18, .iload 4, 2, []), (20, .iconst 4, 1, []), (21, .if_icmp .ge 37, 3, [58]), (24, .aload_n 0, 1, []), (25, .getfield 9, 3, []), (28, .iload_n 3, 1, []), (29, .iaload, 1, []), (30, .iload_n 1, 1, []), (31, .if_icmp .ne 21, 3, [52]), (34, .aload_n 0, 1, []), (35, .getfield 35, 3, []), (38, .iload_n 3, 1, []), (39, .iload 4, 2, []), (41, .invokevirtual 75, 3, []), (44, .bipush (-5), 2, []), (46, .if_icmp .ne 6, 3, [52]), (49, .iinc 2 1, 3, []), (52, .iinc 4 1, 3, []), (55, .goto (-37), 3, [18]), (58, .iinc 3 1, 3, []), (61, .goto (-57), 3, [4]), (64, .iload_n 2, 1, []), (65, .ireturn, 1, [])]
theorem tbX1_bordersToNothing_ok : tbOK cX1_bordersToNothing tbX1_bordersToNothing = true := by decide +kernel
def tbX1_loopOver : TB := [(0, .aload_n 0, 1, []), (1, .getfield 35, 3, []), (4, .iload_n 1, 1, []), (5, .iload_n 2, 1, []), (6, .invokevirtual 75, 3, []), (9, .istore_n 3, 1, []), (10, .iload_n 3, 1, []), (11, .ifCond .lt 18, 3, [29]), (14, .aload_n 0, 1, []), (15, .getfield 9, 3, []), (18, .iload_n 3, 1, []), (19, .iaload, 1, []), (20, .aload_n 0, 1, []), (21, .getfield 9, 3, []), (24, .iload_n 1, 1, []), (25, .iaload, 1, []), (26, .if_icmp .eq 5, 3, [31]), (29, .iconst 0, 1, []), (30, .ireturn, 1, []), (31, .aload_n 0, 1, []), (32, .getfield 21, 3, []), (35, .iload_n 1, 1, []), (36, .iaload, 1, []), (37, .aload_n 0, 1, []), (38, .getfield 35, 3, []), (41, .iload_n 1, 1, []), (42, .iload_n 2, 1, []), (43, .invokevirtual 79, 3, []), (46, .ixor, 1, []), (47, .aload_n 0, 1, []), (48, .getfield 21, 3, []), (51, .iload_n 3, 1, []), (52, .iaload, 1, []), (53, .ixor, 1, []), (54, .ireturn, 1, [])]
theorem tbX1_loopOver_ok : tbOK cX1_loopOver tbX1_loopOver = true := by decide +kernel
def tbX1_loops : TB := [(0, .iconst 1, 1, []), (1, .istore_n 2, 1, []), (2, .iload_n 1, 1, []), (3, .istore_n 3, 1, []), (4, .iload_n 3, 1, []), (5, .aload_n 0, 1, []), (6, .getfield 35, 3, []), (9, .invokevirtual 46, 3, []), (12, .if_icmp .ge 48, 3, [60]), (15, .iconst 0, 1, []), (16, .istore 4, 2, []), (18, .iload 4, 2, []), (20, .iconst 4, 1, []), (21, .if_icmp .ge 33, 3, [54]), (24, .aload_n 0, 1, []), (25, .getfield 9, 3, []), (28, .iload_n 3, 1, []), (29, .iaload, 1, []), (30, .iload_n 1, 1, []), (31, .if_icmp .ne 17, 3, [48]), (34, .iload_n 2, 1, []), (35, .aload_n 0, 1, []), (36, .iload_n 3, 1, []), (37, .iload 4, 2, []), (39, .invokevirtual 105, 3, []), (42, .iconst 3, 1, []), (43, .iand, 1, []), (44, .invokestatic 108, 3, []), (47, .istore_n 2, 1, []), (48, .iinc 4 1, 3, []), (51, .goto (-33), 3, [18]), (54, .iinc 3 1, 3, []), (57, .goto (-53), 3, [4]), (60, .iload_n 2, 1, []), (61, .ireturn, 1, [])]
theorem tbX1_loops_ok : tbOK cX1_loops tbX1_loops = true := by decide +kernel
def tbX1_withLoop : TB := [(0, .iload_n 0, 1, []), (1, .istore_n 2, 1, []), (2, .iconst 0, 1, []), (3, .istore_n 3, 1, []), (4, .iload_n 3, 1, []), (5, .iconst 4, 1, []), (6, .if_icmp .ge 26, 3, [32]), (9, .iload_n 0, 1, []), (10, .iload_n 3, 1, []), (11, .ishr, 1, []), (12, .iconst 1, 1, []), (13, .iand, 1, []), (14, .iconst 1, 1, []), (15, .if_icmp .ne 11, 3, [26]), (18, .iload_n 2, 1, []), (19, .iconst 1, 1, []), (20, .iload_n 3, 1, []), (21, .iload_n 1, 1, []), (22, .ixor, 1, []), (23, .ishl, 1, []), (24, .ior, 1, []), (25, .istore_n 2, 1, []), (26, .iinc 3 1, 3, []), (29, .goto (-25), 3, [4]), (32, .iload_n 2, 1, []), (33, .ireturn, 1, [])]
theorem tbX1_withLoop_ok : tbOK cX1_withLoop tbX1_withLoop = true := by decide +kernel
def tbX1_isOneSided : TB := [(0, .iload_n 1, 1, []), (1, .istore_n 2, 1, []), (2, .iload_n 2, 1, []), (3, .aload_n 0, 1, []), (4, .getfield 35, 3, []), (7, .invokevirtual 46, 3, []), (10, .if_icmp .ge 45, 3, [55]), (13, .iconst 0, 1, []), (14, .istore_n 3, 1, []), (15, .iload_n 3, 1, []), (16, .iconst 4, 1, []), (17, .if_icmp .ge 32, 3, [49]), (20, .aload_n 0, 1, []), (21, .getfield 9, 3, []), (24, .iload_n 2, 1, []), (25, .iaload, 1, []), (26, .iload_n 1, 1, []), (27, .if_icmp .ne 16, 3, [43]), (30, .aload_n 0, 1, []), (31, .iload_n 2, 1, []), (32, .iload_n 3, 1, []), (33, .invokevirtual 105, 3, []), (36, .iconst 4, 1, []), (37, .iand, 1, []), (38, .ifCond .eq 5, 3, [43]), (41, .iconst 1, 1, []), (42, .ireturn, 1, []), (43, .iinc 3 1, 3, []), (46, .goto (-31), 3, [15]), (49, .iinc 2 1, 3, []), (52, .goto (-50), 3, [2]), (55, .iconst 0, 1, []), (56, .ireturn, 1, [])]
theorem tbX1_isOneSided_ok : tbOK cX1_isOneSided tbX1_isOneSided = true := by decide +kernel
def tbX1_partsBeside : TB := [(0, .iconst 0, 1, []), (1, .istore_n 2, 1, []), (2, .iload_n 2, 1, []), (3, .aload_n 0, 1, []), (4, .getfield 35, 3, []), (7, .invokevirtual 46, 3, []), (10, .if_icmp .ge 16, 3, [26]), (13, .aload_n 0, 1, []), (14, .getfield 24, 3, []), (17, .iload_n 2, 1, []), (18, .iconst 0, 1, []), (19, .bastore, 1, []), (20, .iinc 2 1, 3, []), (23, .goto (-21), 3, [2]), (26, .iconst 0, 1, []), (27, .istore_n 2, 1, []), (28, .iload_n 1, 1, []), (29, .istore_n 3, 1, []), (30, .iload_n 3, 1, []), (31, .aload_n 0, 1, []), (32, .getfield 35, 3, []), (35, .invokevirtual 46, 3, []), (38, .if_icmp .ge 64, 3, [102]), (41, .iconst 0, 1, []), (42, .istore 4, 2, []), (44, .iload 4, 2, []), (46, .iconst 4, 1, []), (47, .if_icmp .ge 49, 3, [96]), (50, .aload_n 0, 1, []), (51, .getfield 9, 3, []), (54, .iload_n 3, 1, []), (55, .iaload, 1, []), (56, .iload_n 1, 1, []), (57, .if_icmp .ne 33, 3, [90]), (60, .aload_n 0, 1, []), (61, .iload_n 3, 1, []), (62, .iload 4, 2, []), (64, .invokevirtual 101, 3, []), (67, .ifCond .eq 23, 3, [90]), (70, .aload_n 0, 1, []), (71, .aload_n 0, 1, []), (72, .getfield 35, 3, []), (75, .iload_n 3, 1, []), (76, .iload 4, 2, []), (78, .invokevirtual 75, 3, []), (81, .invokevirtual 111, 3, []), (84, .ifCond .eq 6, 3, [90]), (87, .iinc 2 1, 3, []), (90, .iinc 4 1, 3, []), (93, .goto (-49), 3, [44]), (96, .iinc 3 1, 3, []), (99, .goto (-69), 3, [30]), (102, .iload_n 2, 1, []), (103, .ireturn, 1, [])]
theorem tbX1_partsBeside_ok : tbOK cX1_partsBeside tbX1_partsBeside = true := by decide +kernel
def tbX1_isFirstMeeting : TB := [(0, .aload_n 0, 1, []), (1, .getfield 9, 3, []), (4, .iload_n 1, 1, []), (5, .iaload, 1, []), (6, .istore_n 2, 1, []), (7, .aload_n 0, 1, []), (8, .getfield 24, 3, []), (11, .iload_n 2, 1, []), (12, .baload, 1, []), (13, .ifCond .ne 7, 3, [20]), (16, .iconst 1, 1, []), (17, .goto 4, 3, [21]), (20, .iconst 0, 1, []), (21, .istore_n 3, 1, []), (22, .aload_n 0, 1, []), (23, .getfield 24, 3, []), (26, .iload_n 2, 1, []), (27, .iconst 1, 1, []), (28, .bastore, 1, []), (29, .iload_n 3, 1, []), (30, .ireturn, 1, [])]
theorem tbX1_isFirstMeeting_ok : tbOK cX1_isFirstMeeting tbX1_isFirstMeeting = true := by decide +kernel
def tbX1_greatestDepth : TB := [(0, .iconst 0, 1, []), (1, .istore_n 2, 1, []), (2, .iload_n 1, 1, []), (3, .istore_n 3, 1, []), (4, .iload_n 3, 1, []), (5, .aload_n 0, 1, []), (6, .getfield 35, 3, []), (9, .invokevirtual 46, 3, []), (12, .if_icmp .ge 36, 3, [48]), (15, .aload_n 0, 1, []), (16, .getfield 9, 3, []), (19, .iload_n 3, 1, []), (20, .iaload, 1, []), (21, .iload_n 1, 1, []), (22, .if_icmp .ne 20, 3, [42]), (25, .aload_n 0, 1, []), (26, .getfield 18, 3, []), (29, .iload_n 3, 1, []), (30, .iaload, 1, []), (31, .iload_n 2, 1, []), (32, .if_icmp .le 10, 3, [42]), (35, .aload_n 0, 1, []), (36, .getfield 18, 3, []), (39, .iload_n 3, 1, []), (40, .iaload, 1, []), (41, .istore_n 2, 1, []), (42, .iinc 3 1, 3, []), (45, .goto (-41), 3, [4]), (48, .iload_n 2, 1, []), (49, .ireturn, 1, [])]
theorem tbX1_greatestDepth_ok : tbOK cX1_greatestDepth tbX1_greatestDepth = true := by decide +kernel
def tbX2_style : TB := [(0, .aload_n 0, 1, []), (1, .getfield 9, 3, []), (4, .ireturn, 1, [])]
theorem tbX2_style_ok : tbOK cX2_style tbX2_style = true := by decide +kernel
def tbX2_offset : TB := [(0, .aload_n 0, 1, []), (1, .getfield 15, 3, []), (4, .ireturn, 1, [])]
theorem tbX2_offset_ok : tbOK cX2_offset tbX2_offset = true := by decide +kernel
def tbX2_change : TB := [(0, .aload_n 0, 1, []), (1, .getfield 9, 3, []), (4, .iload_n 1, 1, []), (5, .if_icmp .ne 11, 3, [16]), (8, .aload_n 0, 1, []), (9, .getfield 15, 3, []), (12, .iload_n 2, 1, []), (13, .if_icmp .eq 7, 3, [20]), (16, .iconst 1, 1, []), (17, .goto 4, 3, [21]), (20, .iconst 0, 1, []), (21, .istore_n 3, 1, []), (22, .aload_n 0, 1, []), (23, .iload_n 1, 1, []), (24, .putfield 9, 3, []), (27, .aload_n 0, 1, []), (28, .iload_n 2, 1, []), (29, .putfield 15, 3, []), (32, .iload_n 3, 1, []), (33, .ireturn, 1, [])]
theorem tbX2_change_ok : tbOK cX2_change tbX2_change = true := by decide +kernel
def tbX2_crossing : TB := [(0, .aload_n 0, 1, []), (1, .getfield 9, 3, []), (4, .iconst 2, 1, []), (5, .if_icmp .ne 9, 3, [14]), (8, .iload_n 1, 1, []), (9, .iconst 4, 1, []), (10, .ior, 1, []), (11, .goto 4, 3, [15]), (14, .iload_n 1, 1, []), (15, .ireturn, 1, [])]
theorem tbX2_crossing_ok : tbOK cX2_crossing tbX2_crossing = true := by decide +kernel
def tbX2_placeBeyond : TB := [(0, .aload_n 0, 1, []), (1, .getfield 9, 3, []), (4, .iconst 2, 1, []), (5, .if_icmp .ne 12, 3, [17]), (8, .aload_n 0, 1, []), (9, .getfield 15, 3, []), (12, .iload_n 1, 1, []), (13, .isub, 1, []), (14, .goto 9, 3, [23]), (17, .iload_n 1, 1, []), (18, .aload_n 0, 1, []), (19, .getfield 15, 3, []), (22, .iadd, 1, []), (23, .iload_n 2, 1, []), (24, .invokestatic 18, 3, []), (27, .ireturn, 1, [])]
theorem tbX2_placeBeyond_ok : tbOK cX2_placeBeyond tbX2_placeBeyond = true := by decide +kernel
def tbX2_modulo : TB := [(0, .iload_n 0, 1, []), (1, .ifCond .ge 7, 3, [8]), (4, .iload_n 0, 1, []), (5, .iload_n 1, 1, []), (6, .iadd, 1, []), (7, .ireturn, 1, []), (8, .iload_n 0, 1, []), (9, .iload_n 1, 1, []), (10, .if_icmp .ge 7, 3, [17]), (13, .iload_n 0, 1, []), (14, .goto 6, 3, [20]), (17, .iload_n 0, 1, []), (18, .iload_n 1, 1, []), (19, .isub, 1, []), (20, .ireturn, 1, [])]
theorem tbX2_modulo_ok : tbOK cX2_modulo tbX2_modulo = true := by decide +kernel
def tbX3_columns : TB := [(0, .aload_n 0, 1, []), (1, .getfield 28, 3, []), (4, .ireturn, 1, [])]
theorem tbX3_columns_ok : tbOK cX3_columns tbX3_columns = true := by decide +kernel
def tbX3_rows : TB := [(0, .aload_n 0, 1, []), (1, .getfield 32, 3, []), (4, .ireturn, 1, [])]
theorem tbX3_rows_ok : tbOK cX3_rows tbX3_rows = true := by decide +kernel
def tbX3_tiles : TB := [(0, .aload_n 0, 1, []), (1, .getfield 28, 3, []), (4, .aload_n 0, 1, []), (5, .getfield 32, 3, []), (8, .imul, 1, []), (9, .ireturn, 1, [])]
theorem tbX3_tiles_ok : tbOK cX3_tiles tbX3_tiles = true := by decide +kernel
def tbX3_sideSeam : TB := [(0, .aload_n 0, 1, []), (1, .getfield 12, 3, []), (4, .areturn, 1, [])]
theorem tbX3_sideSeam_ok : tbOK cX3_sideSeam tbX3_sideSeam = true := by decide +kernel
def tbX3_endSeam : TB := [(0, .aload_n 0, 1, []), (1, .getfield 18, 3, []), (4, .areturn, 1, [])]
theorem tbX3_endSeam_ok : tbOK cX3_endSeam tbX3_endSeam = true := by decide +kernel
def tbX3_has : TB := [(0, .iload_n 1, 1, []), (1, .ifCond .lt 15, 3, [16]), (4, .iload_n 1, 1, []), (5, .aload_n 0, 1, []), (6, .invokevirtual 35, 3, []), (9, .if_icmp .ge 7, 3, [16]), (12, .iconst 1, 1, []), (13, .goto 4, 3, [17]), (16, .iconst 0, 1, []), (17, .ireturn, 1, [])]
theorem tbX3_has_ok : tbOK cX3_has tbX3_has = true := by decide +kernel
def tbX3_next : TB := [(0, .aload_n 0, 1, []), (1, .getfield 21, 3, []), (4, .iload_n 1, 1, []), (5, .iconst 4, 1, []), (6, .imul, 1, []), (7, .iload_n 2, 1, []), (8, .iadd, 1, []), (9, .iaload, 1, []), (10, .ireturn, 1, [])]
theorem tbX3_next_ok : tbOK cX3_next tbX3_next = true := by decide +kernel
def tbX3_crossing : TB := [(0, .aload_n 0, 1, []), (1, .getfield 25, 3, []), (4, .iload_n 1, 1, []), (5, .iconst 4, 1, []), (6, .imul, 1, []), (7, .iload_n 2, 1, []), (8, .iadd, 1, []), (9, .iaload, 1, []), (10, .ireturn, 1, [])]
theorem tbX3_crossing_ok : tbOK cX3_crossing tbX3_crossing = true := by decide +kernel
def tbX3_openBorders : TB := [(0, .iconst 0, 1, []), (1, .istore_n 1, 1, []), (2, .iconst 0, 1, []), (3, .istore_n 2, 1, []), (4, .iload_n 2, 1, []), (5, .aload_n 0, 1, []), (6, .invokevirtual 35, 3, []), (9, .iconst 4, 1, []), (10, .imul, 1, []), (11, .if_icmp .ge 23, 3, [34]), (14, .aload_n 0, 1, []), (15, .getfield 21, 3, []), (18, .iload_n 2, 1, []), (19, .iaload, 1, []), (20, .bipush (-5), 2, []), (22, .if_icmp .eq 6, 3, [28]), (25, .iinc 1 1, 3, []), (28, .iinc 2 1, 3, []), (31, .goto (-27), 3, [4]), (34, .iload_n 1, 1, []), (35, .ireturn, 1, [])]
theorem tbX3_openBorders_ok : tbOK cX3_openBorders tbX3_openBorders = true := by decide +kernel
def tbX3_begin : TB := [(0, .aload_n 0, 1, []), (1, .iload_n 1, 1, []), (2, .putfield 28, 3, []), (5, .aload_n 0, 1, []), (6, .iload_n 2, 1, []), (7, .putfield 32, 3, []), (10, .aload_n 0, 1, []), (11, .getfield 12, 3, []), (14, .iconst 0, 1, []), (15, .iconst 0, 1, []), (16, .invokevirtual 39, 3, []), (19, .pop, 1, []), (20, .aload_n 0, 1, []), (21, .getfield 18, 3, []), (24, .iconst 0, 1, []), (25, .iconst 0, 1, []), (26, .invokevirtual 39, 3, []), (29, .pop, 1, []), (30, .aload_n 0, 1, []), (31, .invokevirtual 43, 3, []), (34, .return_, 1, [])]
theorem tbX3_begin_ok : tbOK cX3_begin tbX3_begin = true := by decide +kernel
def tbX3_changeSeam : TB := [(0, .iload_n 1, 1, []), (1, .ifCond .eq 10, 3, [11]), (4, .aload_n 0, 1, []), (5, .getfield 18, 3, []), (8, .goto 7, 3, [15]), (11, .aload_n 0, 1, []), (12, .getfield 12, 3, []), (15, .astore 4, 2, []), (17, .aload 4, 2, []), (19, .iload_n 2, 1, []), (20, .iload_n 3, 1, []), (21, .invokevirtual 39, 3, []), (24, .ifCond .ne 5, 3, [29]), (27, .iconst 0, 1, []), (28, .ireturn, 1, []), (29, .aload_n 0, 1, []), (30, .invokevirtual 43, 3, []), (33, .iconst 1, 1, []), (34, .ireturn, 1, [])]
theorem tbX3_changeSeam_ok : tbOK cX3_changeSeam tbX3_changeSeam = true := by decide +kernel
def tbX3_joinTiles : TB := [(0, .iconst 0, 1, []), (1, .istore_n 1, 1, []), (2, .iload_n 1, 1, []), (3, .aload_n 0, 1, []), (4, .invokevirtual 35, 3, []), (7, .iconst 4, 1, []), (8, .imul, 1, []), (9, .if_icmp .ge 24, 3, [33]), (12, .aload_n 0, 1, []), (13, .getfield 21, 3, []), (16, .iload_n 1, 1, []), (17, .bipush (-5), 2, []), (19, .iastore, 1, []), (20, .aload_n 0, 1, []), (21, .getfield 25, 3, []), (24, .iload_n 1, 1, []), (25, .iconst 0, 1, []), (26, .iastore, 1, []), (27, .iinc 1 1, 3, []), (30, .goto (-28), 3, [2]), (33, .aload_n 0, 1, []), (34, .invokevirtual 46, 3, []), (37, .aload_n 0, 1, []), (38, .invokevirtual 49, 3, []), (41, .aload_n 0, 1, []), (42, .invokevirtual 52, 3, []), (45, .return_, 1, [])]
theorem tbX3_joinTiles_ok : tbOK cX3_joinTiles tbX3_joinTiles = true := by decide +kernel
def tbX3_joinInside : TB := [(0, .iconst 0, 1, []), (1, .istore_n 1, 1, []), (2, .iload_n 1, 1, []), (3, .aload_n 0, 1, []), (4, .getfield 32, 3, []), (7, .if_icmp .ge 77, 3, [84]), (10, .iconst 0, 1, []), (11, .istore_n 2, 1, []), (12, .iload_n 2, 1, []), (13, .aload_n 0, 1, []), (14, .getfield 28, 3, []), (17, .if_icmp .ge 61, 3, [78]), (20, .iload_n 1, 1, []), (21, .aload_n 0, 1, []), (22, .getfield 28, 3, []), (25, .imul, 1, []), (26, .iload_n 2, 1, []), (27, .iadd, 1, []), (28, .istore_n 3, 1, []), (29, .iload_n 2, 1, []), (30, .aload_n 0, 1, []), (31, .getfield 28, 3, []), (34, .iconst 1, 1, []), (35, .isub, 1, []), (36, .if_icmp .ge 13, 3, [49]), (39, .aload_n 0, 1, []), (40, .iload_n 3, 1, []), (41, .iconst 0, 1, []), (42, .iload_n 3, 1, []), (43, .iconst 1, 1, []), (44, .iadd, 1, []), (45, .iconst 0, 1, []), (46, .invokevirtual 55, 3, []), (49, .iload_n 1, 1, []), (50, .aload_n 0, 1, []), (51, .getfield 32, 3, []), (54, .iconst 1, 1, []), (55, .isub, 1, []), (56, .if_icmp .ge 16, 3, [72]), (59, .aload_n 0, 1, []), (60, .iload_n 3, 1, []), (61, .iconst 1, 1, []), (62, .iload_n 3, 1, []), (63, .aload_n 0, 1, []), (64, .getfield 28, 3, []), (67, .iadd, 1, []), (68, .iconst 0, 1, []), (69, .invokevirtual 55, 3, []), (72, .iinc 2 1, 3, []), (75, .goto (-63), 3, [12]), (78, .iinc 1 1, 3, []), (81, .goto (-79), 3, [2]), (84, .return_, 1, [])]
theorem tbX3_joinInside_ok : tbOK cX3_joinInside tbX3_joinInside = true := by decide +kernel
def tbX3_joinSide : TB := [(0, .aload_n 0, 1, []), (1, .getfield 12, 3, []), (4, .invokevirtual 59, 3, []), (7, .ifCond .ne 4, 3, [11]), (10, .return_, 1, []), (11, .iconst 0, 1, []), (12, .istore_n 1, 1, []), (13, .iload_n 1, 1, []), (14, .aload_n 0, 1, []), (15, .getfield 32, 3, []), (18, .if_icmp .ge 56, 3, [74]), (21, .iload_n 1, 1, []), (22, .aload_n 0, 1, []), (23, .getfield 28, 3, []), (26, .imul, 1, []), (27, .aload_n 0, 1, []), (28, .getfield 28, 3, []), (31, .iadd, 1, []), (32, .iconst 1, 1, []), (33, .isub, 1, []), (34, .istore_n 2, 1, []), (35, .aload_n 0, 1, []), (36, .getfield 12, 3, []), (39, .iload_n 1, 1, []), (40, .aload_n 0, 1, []), (41, .getfield 32, 3, []), (44, .invokevirtual 62, 3, []), (47, .aload_n 0, 1, []), (48, .getfield 28, 3, []), (51, .imul, 1, []), (52, .istore_n 3, 1, []), (53, .aload_n 0, 1, []), (54, .iload_n 2, 1, []), (55, .iconst 0, 1, []), (56, .iload_n 3, 1, []), (57, .aload_n 0, 1, []), (58, .getfield 12, 3, []), (61, .iconst 1, 1, []), (62, .invokevirtual 66, 3, []), (65, .invokevirtual 55, 3, []), (68, .iinc 1 1, 3, []), (71, .goto (-58), 3, [13]), (74, .return_, 1, [])]
theorem tbX3_joinSide_ok : tbOK cX3_joinSide tbX3_joinSide = true := by decide +kernel
def tbX3_joinEnd : TB := [(0, .aload_n 0, 1, []), (1, .getfield 18, 3, []), (4, .invokevirtual 59, 3, []), (7, .ifCond .ne 4, 3, [11]), (10, .return_, 1, []), (11, .iconst 0, 1, []), (12, .istore_n 1, 1, []), (13, .iload_n 1, 1, []), (14, .aload_n 0, 1, []), (15, .getfield 28, 3, []), (18, .if_icmp .ge 51, 3, [69]), (21, .aload_n 0, 1, []), (22, .getfield 32, 3, []), (25, .iconst 1, 1, []), (26, .isub, 1, []), (27, .aload_n 0, 1, []), (28, .getfield 28, 3, []), (31, .imul, 1, []), (32, .iload_n 1, 1, []), (33, .iadd, 1, []), (34, .istore_n 2, 1, []), (35, .aload_n 0, 1, []), (36, .getfield 18, 3, []), (39, .iload_n 1, 1, []), (40, .aload_n 0, 1, []), (41, .getfield 28, 3, []), (44, .invokevirtual 62, 3, []), (47, .istore_n 3, 1, []), (48, .aload_n 0, 1, []), (49, .iload_n 2, 1, []), (50, .iconst 1, 1, []), (51, .iload_n 3, 1, []), (52, .aload_n 0, 1, []), (53, .getfield 18, 3, []), (56, .iconst 2, 1, []), (57, .invokevirtual 66, 3, []), (60, .invokevirtual 55, 3, []), (63, .iinc 1 1, 3, []), (66, .goto (-53), 3, [13]), (69, .return_, 1, [])]
theorem tbX3_joinEnd_ok : tbOK cX3_joinEnd tbX3_joinEnd = true := by decide +kernel
def tbX3_join : TB := [(0, .iload_n 1, 1, []), (1, .iconst 4, 1, []), (2, .imul, 1, []), (3, .iload_n 2, 1, []), (4, .iadd, 1, []), (5, .istore 5, 2, []), (7, .iload_n 3, 1, []), (8, .iconst 4, 1, []), (9, .imul, 1, []), (10, .iload_n 2, 1, []), (11, .ifCond .ne 7, 3, [18]), (14, .iconst 2, 1, []), (15, .goto 4, 3, [19]), (18, .iconst 3, 1, []), (19, .iadd, 1, []), (20, .istore 6, 2, []), (22, .aload_n 0, 1, []), (23, .getfield 21, 3, []), (26, .iload 5, 2, []), (28, .iload_n 3, 1, []), (29, .iastore, 1, []), (30, .aload_n 0, 1, []), (31, .getfield 21, 3, []), (34, .iload 6, 2, []), (36, .iload_n 1, 1, []), (37, .iastore, 1, []), (38, .aload_n 0, 1, []), (39, .getfield 25, 3, []), (42, .iload 5, 2, []), (44, .iload 4, 2, []), (46, .iastore, 1, []), (47, .aload_n 0, 1, []), (48, .getfield 25, 3, []), (51, .iload 6, 2, []), (53, .iload 4, 2, []), (55, .iastore, 1, []), (56, .return_, 1, [])]
theorem tbX3_join_ok : tbOK cX3_join tbX3_join = true := by decide +kernel
def tbX4_length : TB := [(0, .aload_n 0, 1, []), (1, .getfield 15, 3, []), (4, .ireturn, 1, [])]
theorem tbX4_length_ok : tbOK cX4_length tbX4_length = true := by decide +kernel
def tbX4_at : TB := [(0, .aload_n 0, 1, []), (1, .getfield 9, 3, []), (4, .iload_n 1, 1, []), (5, .caload, 1, []), (6, .ireturn, 1, [])]
theorem tbX4_at_ok : tbOK cX4_at tbX4_at = true := by decide +kernel
def tbX4_append : TB := [(0, .aload_n 0, 1, []), (1, .getfield 15, 3, []), (4, .sipush 160, 3, []), (7, .if_icmp .lt 6, 3, [13]), (10, .bipush (-3), 2, []), (12, .ireturn, 1, []), (13, .aload_n 0, 1, []), (14, .getfield 9, 3, []), (17, .aload_n 0, 1, []), (18, .getfield 15, 3, []), (21, .iload_n 1, 1, []), (22, .castore, 1, []), (23, .aload_n 0, 1, []), (24, .dup, 1, []), (25, .getfield 15, 3, []), (28, .iconst 1, 1, []), (29, .iadd, 1, []), (30, .putfield 15, 3, []), (33, .aload_n 0, 1, []), (34, .getfield 15, 3, []), (37, .ireturn, 1, [])]
theorem tbX4_append_ok : tbOK cX4_append tbX4_append = true := by decide +kernel
def tbX4_empty : TB := [(0, .aload_n 0, 1, []), (1, .getfield 15, 3, []), (4, .istore_n 1, 1, []), (5, .aload_n 0, 1, []), (6, .iconst 0, 1, []), (7, .putfield 15, 3, []), (10, .iload_n 1, 1, []), (11, .ireturn, 1, [])]
theorem tbX4_empty_ok : tbOK cX4_empty tbX4_empty = true := by decide +kernel
def tbX4_faultAsTiles : TB := [(0, .iload_n 2, 1, []), (1, .iload_n 1, 1, []), (2, .iconst 1, 1, []), (3, .iadd, 1, []), (4, .imul, 1, []), (5, .iconst 1, 1, []), (6, .isub, 1, []), (7, .istore_n 3, 1, []), (8, .iconst 0, 1, []), (9, .istore 4, 2, []), (11, .iconst 0, 1, []), (12, .istore 5, 2, []), (14, .iload 5, 2, []), (16, .aload_n 0, 1, []), (17, .getfield 15, 3, []), (20, .if_icmp .ge 58, 3, [78]), (23, .iload 5, 2, []), (25, .iload_n 3, 1, []), (26, .if_icmp .ge 27, 3, [53]), (29, .aload_n 0, 1, []), (30, .getfield 9, 3, []), (33, .iload 5, 2, []), (35, .caload, 1, []), (36, .iload 4, 2, []), (38, .iload_n 1, 1, []), (39, .if_icmp .ne 7, 3, [46]), (42, .iconst 1, 1, []), (43, .goto 4, 3, [47]), (46, .iconst 0, 1, []), (47, .invokestatic 19, 3, []), (50, .ifCond .ne 6, 3, [56]), (53, .iload 5, 2, []), (55, .ireturn, 1, []), (56, .iload 4, 2, []), (58, .iload_n 1, 1, []), (59, .if_icmp .ne 7, 3, [66]), (62, .iconst 0, 1, []), (63, .goto 7, 3, [70]), (66, .iload 4, 2, []), (68, .iconst 1, 1, []), (69, .iadd, 1, []), (70, .istore 4, 2, []), (72, .iinc 5 1, 3, []), (75, .goto (-61), 3, [14]), (78, .aload_n 0, 1, []), (79, .getfield 15, 3, []), (82, .iload_n 3, 1, []), (83, .if_icmp .ge 10, 3, [93]), (86, .aload_n 0, 1, []), (87, .getfield 15, 3, []), (90, .goto 4, 3, [94]), (93, .iconst (-1), 1, []), (94, .ireturn, 1, [])]
theorem tbX4_faultAsTiles_ok : tbOK cX4_faultAsTiles tbX4_faultAsTiles = true := by decide +kernel
def tbX4_isFitting : TB := [(0, .iload_n 1, 1, []), (1, .ifCond .eq 17, 3, [18]), (4, .iload_n 0, 1, []), (5, .bipush 47, 2, []), (7, .if_icmp .ne 7, 3, [14]), (10, .iconst 1, 1, []), (11, .goto 24, 3, [35]), (14, .iconst 0, 1, []), (15, .goto 20, 3, [35]), (18, .iload_n 0, 1, []), (19, .bipush 48, 2, []), (21, .if_icmp .lt 13, 3, [34]), (24, .iload_n 0, 1, []), (25, .bipush 53, 2, []), (27, .if_icmp .gt 7, 3, [34]), (30, .iconst 1, 1, []), (31, .goto 4, 3, [35]), (34, .iconst 0, 1, []), (35, .ireturn, 1, [])]
theorem tbX4_isFitting_ok : tbOK cX4_isFitting tbX4_isFitting = true := by decide +kernel
def tbX4_kindAt : TB := [(0, .aload_n 0, 1, []), (1, .getfield 9, 3, []), (4, .iload_n 2, 1, []), (5, .iload_n 3, 1, []), (6, .iconst 1, 1, []), (7, .iadd, 1, []), (8, .imul, 1, []), (9, .iload_n 1, 1, []), (10, .iadd, 1, []), (11, .caload, 1, []), (12, .bipush 48, 2, []), (14, .isub, 1, []), (15, .ireturn, 1, [])]
theorem tbX4_kindAt_ok : tbOK cX4_kindAt tbX4_kindAt = true := by decide +kernel
def tbX4_faultAsWalk : TB := [(0, .iconst 0, 1, []), (1, .istore_n 1, 1, []), (2, .iload_n 1, 1, []), (3, .aload_n 0, 1, []), (4, .getfield 15, 3, []), (7, .if_icmp .ge 36, 3, [43]), (10, .aload_n 0, 1, []), (11, .getfield 9, 3, []), (14, .iload_n 1, 1, []), (15, .caload, 1, []), (16, .istore_n 2, 1, []), (17, .iload_n 2, 1, []), (18, .bipush 102, 2, []), (20, .if_icmp .eq 17, 3, [37]), (23, .iload_n 2, 1, []), (24, .bipush 114, 2, []), (26, .if_icmp .eq 11, 3, [37]), (29, .iload_n 2, 1, []), (30, .bipush 108, 2, []), (32, .if_icmp .eq 5, 3, [37]), (35, .iload_n 1, 1, []), (36, .ireturn, 1, []), (37, .iinc 1 1, 3, []), (40, .goto (-38), 3, [2]), (43, .iconst (-1), 1, []), (44, .ireturn, 1, [])]
theorem tbX4_faultAsWalk_ok : tbOK cX4_faultAsWalk tbX4_faultAsWalk = true := by decide +kernel
def tbX5_number : TB := [(0, .aload_n 0, 1, []), (1, .getfield 15, 3, []), (4, .ireturn, 1, [])]
theorem tbX5_number_ok : tbOK cX5_number tbX5_number = true := by decide +kernel
def tbX5_at : TB := [(0, .aload_n 0, 1, []), (1, .getfield 9, 3, []), (4, .iload_n 1, 1, []), (5, .iaload, 1, []), (6, .ireturn, 1, [])]
theorem tbX5_at_ok : tbOK cX5_at tbX5_at = true := by decide +kernel
def tbX5_clear : TB := [(0, .aload_n 0, 1, []), (1, .iconst 0, 1, []), (2, .putfield 15, 3, []), (5, .return_, 1, [])]
theorem tbX5_clear_ok : tbOK cX5_clear tbX5_clear = true := by decide +kernel
def tbX5_add : TB := [(0, .aload_n 0, 1, []), (1, .getfield 15, 3, []), (4, .sipush 144, 3, []), (7, .if_icmp .ge 23, 3, [30]), (10, .aload_n 0, 1, []), (11, .getfield 9, 3, []), (14, .aload_n 0, 1, []), (15, .getfield 15, 3, []), (18, .iload_n 1, 1, []), (19, .iastore, 1, []), (20, .aload_n 0, 1, []), (21, .dup, 1, []), (22, .getfield 15, 3, []), (25, .iconst 1, 1, []), (26, .iadd, 1, []), (27, .putfield 15, 3, []), (30, .return_, 1, [])]
theorem tbX5_add_ok : tbOK cX5_add tbX5_add = true := by decide +kernel
def tbX5_takeOut : TB := [(0, .aload_n 0, 1, []), (1, .getfield 9, 3, []), (4, .iload_n 1, 1, []), (5, .iaload, 1, []), (6, .istore_n 2, 1, []), (7, .aload_n 0, 1, []), (8, .dup, 1, []), (9, .getfield 15, 3, []), (12, .iconst 1, 1, []), (13, .isub, 1, []), (14, .putfield 15, 3, []), (17, .aload_n 0, 1, []), (18, .getfield 9, 3, []), (21, .iload_n 1, 1, []), (22, .aload_n 0, 1, []), (23, .getfield 9, 3, []), (26, .aload_n 0, 1, []), (27, .getfield 15, 3, []), (30, .iaload, 1, []), (31, .iastore, 1, []), (32, .iload_n 2, 1, []), (33, .ireturn, 1, [])]
theorem tbX5_takeOut_ok : tbOK cX5_takeOut tbX5_takeOut = true := by decide +kernel
def tbX6_follow : TB := [(0, .aload_n 0, 1, []), (1, .iload_n 2, 1, []), (2, .iload_n 3, 1, []), (3, .invokevirtual 19, 3, []), (6, .iconst 1, 1, []), (7, .istore 4, 2, []), (9, .iconst 0, 1, []), (10, .istore 5, 2, []), (12, .iload 5, 2, []), (14, .aload_n 1, 1, []), (15, .invokevirtual 23, 3, []), (18, .if_icmp .ge 26, 3, [44]), (21, .iload 4, 2, []), (23, .ifCond .eq 21, 3, [44]), (26, .aload_n 0, 1, []), (27, .aload_n 1, 1, []), (28, .iload 5, 2, []), (30, .invokevirtual 29, 3, []), (33, .invokevirtual 33, 3, []), (36, .istore 4, 2, []), (38, .iinc 5 1, 3, []), (41, .goto (-29), 3, [12]), (44, .return_, 1, [])]
theorem tbX6_follow_ok : tbOK cX6_follow tbX6_follow = true := by decide +kernel
def tbX6_begin : TB := [(0, .iconst 0, 1, []), (1, .istore_n 3, 1, []), (2, .iload_n 3, 1, []), (3, .sipush 144, 3, []), (6, .if_icmp .ge 16, 3, [22]), (9, .aload_n 0, 1, []), (10, .getfield 9, 3, []), (13, .iload_n 3, 1, []), (14, .iconst 0, 1, []), (15, .bastore, 1, []), (16, .iinc 3 1, 3, []), (19, .goto (-17), 3, [2]), (22, .aload_n 0, 1, []), (23, .iload_n 2, 1, []), (24, .putfield 37, 3, []), (27, .aload_n 0, 1, []), (28, .iconst 0, 1, []), (29, .putfield 41, 3, []), (32, .aload_n 0, 1, []), (33, .iconst 0, 1, []), (34, .putfield 44, 3, []), (37, .aload_n 0, 1, []), (38, .iconst 0, 1, []), (39, .putfield 47, 3, []), (42, .aload_n 0, 1, []), (43, .iload_n 1, 1, []), (44, .invokevirtual 50, 3, []), (47, .return_, 1, [])]
theorem tbX6_begin_ok : tbOK cX6_begin tbX6_begin = true := by decide +kernel
def tbX6_obey : TB := [(0, .iload_n 1, 1, []), (1, .bipush 102, 2, []), (3, .if_icmp .ne 8, 3, [11]), (6, .aload_n 0, 1, []), (7, .invokevirtual 54, 3, []), (10, .ireturn, 1, []), (11, .aload_n 0, 1, []), (12, .iload_n 1, 1, []), (13, .bipush 114, 2, []), (15, .if_icmp .ne 7, 3, [22]), (18, .iconst 1, 1, []), (19, .goto 4, 3, [23]), (22, .iconst 0, 1, []), (23, .invokevirtual 58, 3, []), (26, .iconst 1, 1, []), (27, .ireturn, 1, [])]
theorem tbX6_obey_ok : tbOK cX6_obey tbX6_obey = true := by decide +kernel
def tbX6_step : TB := [(0, .aload_n 0, 1, []), (1, .getfield 15, 3, []), (4, .aload_n 0, 1, []), (5, .getfield 62, 3, []), (8, .aload_n 0, 1, []), (9, .getfield 37, 3, []), (12, .invokevirtual 65, 3, []), (15, .istore_n 1, 1, []), (16, .iload_n 1, 1, []), (17, .ifCond .ge 5, 3, [22]), (20, .iconst 0, 1, []), (21, .ireturn, 1, []), (22, .aload_n 0, 1, []), (23, .getfield 15, 3, []), (26, .aload_n 0, 1, []), (27, .getfield 62, 3, []), (30, .aload_n 0, 1, []), (31, .getfield 37, 3, []), (34, .invokevirtual 71, 3, []), (37, .iconst 4, 1, []), (38, .iand, 1, []), (39, .ifCond .eq 13, 3, [52]), (42, .aload_n 0, 1, []), (43, .iconst 1, 1, []), (44, .aload_n 0, 1, []), (45, .getfield 41, 3, []), (48, .isub, 1, []), (49, .putfield 41, 3, []), (52, .aload_n 0, 1, []), (53, .dup, 1, []), (54, .getfield 44, 3, []), (57, .iconst 1, 1, []), (58, .iadd, 1, []), (59, .putfield 44, 3, []), (62, .aload_n 0, 1, []), (63, .iload_n 1, 1, []), (64, .invokevirtual 50, 3, []), (67, .iconst 1, 1, []), (68, .ireturn, 1, [])]
theorem tbX6_step_ok : tbOK cX6_step tbX6_step = true := by decide +kernel
def tbX6_enter : TB := [(0, .aload_n 0, 1, []), (1, .iload_n 1, 1, []), (2, .putfield 62, 3, []), (5, .aload_n 0, 1, []), (6, .getfield 9, 3, []), (9, .iload_n 1, 1, []), (10, .baload, 1, []), (11, .ifCond .ne 20, 3, [31]), (14, .aload_n 0, 1, []), (15, .getfield 9, 3, []), (18, .iload_n 1, 1, []), (19, .iconst 1, 1, []), (20, .bastore, 1, []), (21, .aload_n 0, 1, []), (22, .dup, 1, []), (23, .getfield 47, 3, []), (26, .iconst 1, 1, []), (27, .iadd, 1, []), (28, .putfield 47, 3, []), (31, .return_, 1, [])]
theorem tbX6_enter_ok : tbOK cX6_enter tbX6_enter = true := by decide +kernel
def tbX6_turn : TB := [(0, .iload_n 1, 1, []), (1, .aload_n 0, 1, []), (2, .getfield 41, 3, []), (5, .ifCond .ne 7, 3, [12]), (8, .iconst 1, 1, []), (9, .goto 4, 3, [13]), (12, .iconst 0, 1, []), (13, .if_icmp .ne 7, 3, [20]), (16, .iconst 1, 1, []), (17, .goto 4, 3, [21]), (20, .iconst 0, 1, []), (21, .istore_n 2, 1, []), (22, .iload_n 2, 1, []), (23, .ifCond .eq 28, 3, [51]), (26, .aload_n 0, 1, []), (27, .aload_n 0, 1, []), (28, .getfield 37, 3, []), (31, .iconst 3, 1, []), (32, .if_icmp .ne 7, 3, [39]), (35, .iconst 0, 1, []), (36, .goto 9, 3, [45]), (39, .aload_n 0, 1, []), (40, .getfield 37, 3, []), (43, .iconst 1, 1, []), (44, .iadd, 1, []), (45, .putfield 37, 3, []), (48, .goto 24, 3, [72]), (51, .aload_n 0, 1, []), (52, .aload_n 0, 1, []), (53, .getfield 37, 3, []), (56, .ifCond .ne 7, 3, [63]), (59, .iconst 3, 1, []), (60, .goto 9, 3, [69]), (63, .aload_n 0, 1, []), (64, .getfield 37, 3, []), (67, .iconst 1, 1, []), (68, .isub, 1, []), (69, .putfield 37, 3, []), (72, .return_, 1, [])]
theorem tbX6_turn_ok : tbOK cX6_turn tbX6_turn = true := by decide +kernel
def tbX6_tell : TB := [(0, .iload_n 1, 1, []), (1, .tableswitch 51 0 3 #[31, 36, 41, 46], 31, [52, 32, 37, 42, 47]), (32, .aload_n 0, 1, []), (33, .getfield 62, 3, []), (36, .ireturn, 1, []), (37, .aload_n 0, 1, []), (38, .getfield 37, 3, []), (41, .ireturn, 1, []), (42, .aload_n 0, 1, []), (43, .getfield 41, 3, []), (46, .ireturn, 1, []), (47, .aload_n 0, 1, []), (48, .getfield 44, 3, []), (51, .ireturn, 1, []), (52, .aload_n 0, 1, []), (53, .getfield 47, 3, []), (56, .ireturn, 1, [])]
theorem tbX6_tell_ok : tbOK cX6_tell tbX6_tell = true := by decide +kernel
def tbX7_levelWeights : TB := [(0, .iconst 0, 1, []), (1, .istore_n 1, 1, []), (2, .iload_n 1, 1, []), (3, .bipush 6, 2, []), (5, .if_icmp .ge 16, 3, [21]), (8, .aload_n 0, 1, []), (9, .getfield 9, 3, []), (12, .iload_n 1, 1, []), (13, .iconst 1, 1, []), (14, .iastore, 1, []), (15, .iinc 1 1, 3, []), (18, .goto (-16), 3, [2]), (21, .return_, 1, [])]
theorem tbX7_levelWeights_ok : tbOK cX7_levelWeights tbX7_levelWeights = true := by decide +kernel
def tbX7_changeWeight : TB := [(0, .aload_n 0, 1, []), (1, .getfield 9, 3, []), (4, .iload_n 1, 1, []), (5, .iaload, 1, []), (6, .istore_n 3, 1, []), (7, .aload_n 0, 1, []), (8, .getfield 9, 3, []), (11, .iload_n 1, 1, []), (12, .iload_n 2, 1, []), (13, .iastore, 1, []), (14, .iload_n 3, 1, []), (15, .ireturn, 1, [])]
theorem tbX7_changeWeight_ok : tbOK cX7_changeWeight tbX7_changeWeight = true := by decide +kernel
def tbX7_lengthTo : TB := [(0, .aload_n 0, 1, []), (1, .getfield 15, 3, []), (4, .iload_n 1, 1, []), (5, .iaload, 1, []), (6, .ireturn, 1, [])]
theorem tbX7_lengthTo_ok : tbOK cX7_lengthTo tbX7_lengthTo = true := by decide +kernel
def tbX7_measureFrom : TB := [(0, .iconst 0, 1, []), (1, .istore_n 2, 1, []), (2, .iload_n 2, 1, []), (3, .aload_n 0, 1, []), (4, .getfield 25, 3, []), (7, .invokevirtual 32, 3, []), (10, .if_icmp .ge 17, 3, [27]), (13, .aload_n 0, 1, []), (14, .getfield 15, 3, []), (17, .iload_n 2, 1, []), (18, .bipush (-4), 2, []), (20, .iastore, 1, []), (21, .iinc 2 1, 3, []), (24, .goto (-22), 3, [2]), (27, .aload_n 0, 1, []), (28, .getfield 21, 3, []), (31, .invokevirtual 38, 3, []), (34, .aload_n 0, 1, []), (35, .iload_n 1, 1, []), (36, .iconst 0, 1, []), (37, .invokevirtual 41, 3, []), (40, .iconst 0, 1, []), (41, .istore_n 2, 1, []), (42, .iload_n 2, 1, []), (43, .sipush 144, 3, []), (46, .if_icmp .ge 27, 3, [73]), (49, .aload_n 0, 1, []), (50, .getfield 21, 3, []), (53, .invokevirtual 45, 3, []), (56, .ifCond .le 17, 3, [73]), (59, .aload_n 0, 1, []), (60, .aload_n 0, 1, []), (61, .invokevirtual 48, 3, []), (64, .invokevirtual 51, 3, []), (67, .iinc 2 1, 3, []), (70, .goto (-28), 3, [42]), (73, .return_, 1, [])]
theorem tbX7_measureFrom_ok : tbOK cX7_measureFrom tbX7_measureFrom = true := by decide +kernel
def tbX7_takeNearestOpen : TB := [(0, .iconst 0, 1, []), (1, .istore_n 1, 1, []), (2, .iconst 1, 1, []), (3, .istore_n 2, 1, []), (4, .iload_n 2, 1, []), (5, .aload_n 0, 1, []), (6, .getfield 21, 3, []), (9, .invokevirtual 45, 3, []), (12, .if_icmp .ge 40, 3, [52]), (15, .aload_n 0, 1, []), (16, .getfield 15, 3, []), (19, .aload_n 0, 1, []), (20, .getfield 21, 3, []), (23, .iload_n 2, 1, []), (24, .invokevirtual 55, 3, []), (27, .iaload, 1, []), (28, .aload_n 0, 1, []), (29, .getfield 15, 3, []), (32, .aload_n 0, 1, []), (33, .getfield 21, 3, []), (36, .iload_n 1, 1, []), (37, .invokevirtual 55, 3, []), (40, .iaload, 1, []), (41, .if_icmp .ge 5, 3, [46]), (44, .iload_n 2, 1, []), (45, .istore_n 1, 1, []), (46, .iinc 2 1, 3, []), (49, .goto (-45), 3, [4]), (52, .aload_n 0, 1, []), (53, .getfield 21, 3, []), (56, .iload_n 1, 1, []), (57, .invokevirtual 59, 3, []), (60, .ireturn, 1, [])]
theorem tbX7_takeNearestOpen_ok : tbOK cX7_takeNearestOpen tbX7_takeNearestOpen = true := by decide +kernel
def tbX7_spread : TB := [(0, .iconst 0, 1, []), (1, .istore_n 2, 1, []), (2, .iload_n 2, 1, []), (3, .iconst 4, 1, []), (4, .if_icmp .ge 41, 3, [45]), (7, .aload_n 0, 1, []), (8, .iload_n 1, 1, []), (9, .iload_n 2, 1, []), (10, .invokevirtual 62, 3, []), (13, .istore_n 3, 1, []), (14, .iload_n 3, 1, []), (15, .ifCond .le 24, 3, [39]), (18, .aload_n 0, 1, []), (19, .aload_n 0, 1, []), (20, .getfield 25, 3, []), (23, .iload_n 1, 1, []), (24, .iload_n 2, 1, []), (25, .invokevirtual 66, 3, []), (28, .aload_n 0, 1, []), (29, .getfield 15, 3, []), (32, .iload_n 1, 1, []), (33, .iaload, 1, []), (34, .iload_n 3, 1, []), (35, .iadd, 1, []), (36, .invokevirtual 41, 3, []), (39, .iinc 2 1, 3, []), (42, .goto (-40), 3, [2]), (45, .return_, 1, [])]
theorem tbX7_spread_ok : tbOK cX7_spread tbX7_spread = true := by decide +kernel
def tbX7_reach : TB := [(0, .aload_n 0, 1, []), (1, .getfield 15, 3, []), (4, .iload_n 1, 1, []), (5, .iaload, 1, []), (6, .bipush (-4), 2, []), (8, .if_icmp .ne 21, 3, [29]), (11, .aload_n 0, 1, []), (12, .getfield 15, 3, []), (15, .iload_n 1, 1, []), (16, .iload_n 2, 1, []), (17, .iastore, 1, []), (18, .aload_n 0, 1, []), (19, .getfield 21, 3, []), (22, .iload_n 1, 1, []), (23, .invokevirtual 69, 3, []), (26, .goto 20, 3, [46]), (29, .iload_n 2, 1, []), (30, .aload_n 0, 1, []), (31, .getfield 15, 3, []), (34, .iload_n 1, 1, []), (35, .iaload, 1, []), (36, .if_icmp .ge 10, 3, [46]), (39, .aload_n 0, 1, []), (40, .getfield 15, 3, []), (43, .iload_n 1, 1, []), (44, .iload_n 2, 1, []), (45, .iastore, 1, []), (46, .return_, 1, [])]
theorem tbX7_reach_ok : tbOK cX7_reach tbX7_reach = true := by decide +kernel
def tbX7_stepLength : TB := [(0, .aload_n 0, 1, []), (1, .getfield 25, 3, []), (4, .iload_n 1, 1, []), (5, .iload_n 2, 1, []), (6, .invokevirtual 66, 3, []), (9, .istore_n 3, 1, []), (10, .iload_n 3, 1, []), (11, .ifCond .ge 5, 3, [16]), (14, .iconst 0, 1, []), (15, .ireturn, 1, []), (16, .aload_n 0, 1, []), (17, .getfield 9, 3, []), (20, .aload_n 0, 1, []), (21, .getfield 29, 3, []), (24, .iload_n 1, 1, []), (25, .iaload, 1, []), (26, .iaload, 1, []), (27, .istore 4, 2, []), (29, .aload_n 0, 1, []), (30, .getfield 9, 3, []), (33, .aload_n 0, 1, []), (34, .getfield 29, 3, []), (37, .iload_n 3, 1, []), (38, .iaload, 1, []), (39, .iaload, 1, []), (40, .istore 5, 2, []), (42, .iload 4, 2, []), (44, .ifCond .eq 8, 3, [52]), (47, .iload 5, 2, []), (49, .ifCond .ne 7, 3, [56]), (52, .iconst 0, 1, []), (53, .goto 8, 3, [61]), (56, .iload 4, 2, []), (58, .iload 5, 2, []), (60, .iadd, 1, []), (61, .ireturn, 1, [])]
theorem tbX7_stepLength_ok : tbOK cX7_stepLength tbX7_stepLength = true := by decide +kernel
def tbX7_routeTile : TB := [(0, .iload_n 1, 1, []), (1, .istore 4, 2, []), (3, .iconst 0, 1, []), (4, .istore 5, 2, []), (6, .iload 4, 2, []), (8, .iload_n 2, 1, []), (9, .if_icmp .eq 31, 3, [40]), (12, .iload 5, 2, []), (14, .iload_n 3, 1, []), (15, .if_icmp .eq 25, 3, [40]), (18, .iload 5, 2, []), (20, .sipush 144, 3, []), (23, .if_icmp .ge 17, 3, [40]), (26, .aload_n 0, 1, []), (27, .iload 4, 2, []), (29, .invokevirtual 72, 3, []), (32, .istore 4, 2, []), (34, .iinc 5 1, 3, []), (37, .goto (-31), 3, [6]), (40, .iload_n 3, 1, []), (41, .iconst (-1), 1, []), (42, .if_icmp .ne 6, 3, [48]), (45, .iload 5, 2, []), (47, .ireturn, 1, []), (48, .iload 5, 2, []), (50, .iload_n 3, 1, []), (51, .if_icmp .ne 8, 3, [59]), (54, .iload 4, 2, []), (56, .goto 5, 3, [61]), (59, .bipush (-5), 2, []), (61, .ireturn, 1, [])]
theorem tbX7_routeTile_ok : tbOK cX7_routeTile tbX7_routeTile = true := by decide +kernel
def tbX7_nextOnRoute : TB := [(0, .iconst 0, 1, []), (1, .istore_n 2, 1, []), (2, .iload_n 2, 1, []), (3, .iconst 4, 1, []), (4, .if_icmp .ge 52, 3, [56]), (7, .aload_n 0, 1, []), (8, .iload_n 1, 1, []), (9, .iload_n 2, 1, []), (10, .invokevirtual 62, 3, []), (13, .istore_n 3, 1, []), (14, .iload_n 3, 1, []), (15, .ifCond .le 35, 3, [50]), (18, .aload_n 0, 1, []), (19, .getfield 25, 3, []), (22, .iload_n 1, 1, []), (23, .iload_n 2, 1, []), (24, .invokevirtual 66, 3, []), (27, .istore 4, 2, []), (29, .aload_n 0, 1, []), (30, .getfield 15, 3, []), (33, .iload 4, 2, []), (35, .iaload, 1, []), (36, .iload_n 3, 1, []), (37, .iadd, 1, []), (38, .aload_n 0, 1, []), (39, .getfield 15, 3, []), (42, .iload_n 1, 1, []), (43, .iaload, 1, []), (44, .if_icmp .ne 6, 3, [50]), (47, .iload 4, 2, []), (49, .ireturn, 1, []), (50, .iinc 2 1, 3, []), (53, .goto (-51), 3, [2]), (56, .iload_n 1, 1, []), (57, .ireturn, 1, [])]
theorem tbX7_nextOnRoute_ok : tbOK cX7_nextOnRoute tbX7_nextOnRoute = true := by decide +kernel
def tbX7_farthestTile : TB := [(0, .iload_n 1, 1, []), (1, .istore_n 2, 1, []), (2, .iconst 0, 1, []), (3, .istore_n 3, 1, []), (4, .iload_n 3, 1, []), (5, .aload_n 0, 1, []), (6, .getfield 25, 3, []), (9, .invokevirtual 32, 3, []), (12, .if_icmp .ge 26, 3, [38]), (15, .aload_n 0, 1, []), (16, .getfield 15, 3, []), (19, .iload_n 3, 1, []), (20, .iaload, 1, []), (21, .aload_n 0, 1, []), (22, .getfield 15, 3, []), (25, .iload_n 2, 1, []), (26, .iaload, 1, []), (27, .if_icmp .le 5, 3, [32]), (30, .iload_n 3, 1, []), (31, .istore_n 2, 1, []), (32, .iinc 3 1, 3, []), (35, .goto (-31), 3, [4]), (38, .iload_n 2, 1, []), (39, .ireturn, 1, [])]
theorem tbX7_farthestTile_ok : tbOK cX7_farthestTile tbX7_farthestTile = true := by decide +kernel
def tbX7_tilesUpTo : TB := [(0, .iconst 0, 1, []), (1, .istore_n 2, 1, []), (2, .iconst 0, 1, []), (3, .istore_n 3, 1, []), (4, .iload_n 3, 1, []), (5, .aload_n 0, 1, []), (6, .getfield 25, 3, []), (9, .invokevirtual 32, 3, []), (12, .if_icmp .ge 33, 3, [45]), (15, .aload_n 0, 1, []), (16, .getfield 15, 3, []), (19, .iload_n 3, 1, []), (20, .iaload, 1, []), (21, .bipush (-4), 2, []), (23, .if_icmp .eq 16, 3, [39]), (26, .aload_n 0, 1, []), (27, .getfield 15, 3, []), (30, .iload_n 3, 1, []), (31, .iaload, 1, []), (32, .iload_n 1, 1, []), (33, .if_icmp .gt 6, 3, [39]), (36, .iinc 2 1, 3, []), (39, .iinc 3 1, 3, []), (42, .goto (-38), 3, [4]), (45, .iload_n 2, 1, []), (46, .ireturn, 1, [])]
theorem tbX7_tilesUpTo_ok : tbOK cX7_tilesUpTo tbX7_tilesUpTo = true := by decide +kernel
def tbX7_nearestOf : TB := [(0, .bipush (-5), 2, []), (2, .istore_n 2, 1, []), (3, .iconst 0, 1, []), (4, .istore_n 3, 1, []), (5, .iload_n 3, 1, []), (6, .aload_n 0, 1, []), (7, .getfield 25, 3, []), (10, .invokevirtual 32, 3, []), (13, .if_icmp .ge 53, 3, [66]), (16, .aload_n 0, 1, []), (17, .getfield 29, 3, []), (20, .iload_n 3, 1, []), (21, .iaload, 1, []), (22, .iload_n 1, 1, []), (23, .if_icmp .ne 37, 3, [60]), (26, .aload_n 0, 1, []), (27, .getfield 15, 3, []), (30, .iload_n 3, 1, []), (31, .iaload, 1, []), (32, .bipush (-4), 2, []), (34, .if_icmp .eq 26, 3, [60]), (37, .iload_n 2, 1, []), (38, .bipush (-5), 2, []), (40, .if_icmp .eq 18, 3, [58]), (43, .aload_n 0, 1, []), (44, .getfield 15, 3, []), (47, .iload_n 3, 1, []), (48, .iaload, 1, []), (49, .aload_n 0, 1, []), (50, .getfield 15, 3, []), (53, .iload_n 2, 1, []), (54, .iaload, 1, []), (55, .if_icmp .ge 5, 3, [60]), (58, .iload_n 3, 1, []), (59, .istore_n 2, 1, []), (60, .iinc 3 1, 3, []), (63, .goto (-58), 3, [5]), (66, .iload_n 2, 1, []), (67, .ireturn, 1, [])]
theorem tbX7_nearestOf_ok : tbOK cX7_nearestOf tbX7_nearestOf = true := by decide +kernel
def tbX8_reset : TB := [(0, .iload_n 1, 1, []), (1, .invokestatic 66, 3, []), (4, .ifCond .eq 10, 3, [14]), (7, .iload_n 2, 1, []), (8, .invokestatic 66, 3, []), (11, .ifCond .ne 6, 3, [17]), (14, .bipush (-2), 2, []), (16, .ireturn, 1, []), (17, .aload_n 0, 1, []), (18, .iload_n 1, 1, []), (19, .iload_n 2, 1, []), (20, .invokevirtual 62, 3, []), (23, .aload_n 0, 1, []), (24, .getfield 12, 3, []), (27, .invokevirtual 70, 3, []), (30, .ireturn, 1, [])]
theorem tbX8_reset_ok : tbOK cX8_reset tbX8_reset = true := by decide +kernel
def tbX8_setSeam : TB := [(0, .iload_n 1, 1, []), (1, .ifCond .eq 13, 3, [14]), (4, .aload_n 0, 1, []), (5, .getfield 12, 3, []), (8, .invokevirtual 74, 3, []), (11, .goto 10, 3, [21]), (14, .aload_n 0, 1, []), (15, .getfield 12, 3, []), (18, .invokevirtual 77, 3, []), (21, .istore 4, 2, []), (23, .iload_n 2, 1, []), (24, .ifCond .lt 18, 3, [42]), (27, .iload_n 2, 1, []), (28, .iconst 2, 1, []), (29, .if_icmp .gt 13, 3, [42]), (32, .iload_n 3, 1, []), (33, .ifCond .lt 9, 3, [42]), (36, .iload_n 3, 1, []), (37, .iload 4, 2, []), (39, .if_icmp .lt 6, 3, [45]), (42, .bipush (-2), 2, []), (44, .ireturn, 1, []), (45, .aload_n 0, 1, []), (46, .getfield 12, 3, []), (49, .iload_n 1, 1, []), (50, .iload_n 2, 1, []), (51, .iload_n 3, 1, []), (52, .invokevirtual 80, 3, []), (55, .ifCond .ne 5, 3, [60]), (58, .iconst 0, 1, []), (59, .ireturn, 1, []), (60, .aload_n 0, 1, []), (61, .invokevirtual 84, 3, []), (64, .iconst 1, 1, []), (65, .ireturn, 1, [])]
theorem tbX8_setSeam_ok : tbOK cX8_setSeam tbX8_setSeam = true := by decide +kernel
def tbX8_value : TB := [(0, .iload_n 1, 1, []), (1, .tableswitch 135 0 8 #[51, 59, 67, 78, 89, 100, 111, 119, 127], 51, [136, 52, 60, 68, 79, 90, 101, 112, 120, 128]), (52, .aload_n 0, 1, []), (53, .getfield 12, 3, []), (56, .invokevirtual 74, 3, []), (59, .ireturn, 1, []), (60, .aload_n 0, 1, []), (61, .getfield 12, 3, []), (64, .invokevirtual 77, 3, []), (67, .ireturn, 1, []), (68, .aload_n 0, 1, []), (69, .getfield 12, 3, []), (72, .invokevirtual 87, 3, []), (75, .invokevirtual 91, 3, []), (78, .ireturn, 1, []), (79, .aload_n 0, 1, []), (80, .getfield 12, 3, []), (83, .invokevirtual 87, 3, []), (86, .invokevirtual 96, 3, []), (89, .ireturn, 1, []), (90, .aload_n 0, 1, []), (91, .getfield 12, 3, []), (94, .invokevirtual 99, 3, []), (97, .invokevirtual 91, 3, []), (100, .ireturn, 1, []), (101, .aload_n 0, 1, []), (102, .getfield 12, 3, []), (105, .invokevirtual 99, 3, []), (108, .invokevirtual 96, 3, []), (111, .ireturn, 1, []), (112, .aload_n 0, 1, []), (113, .getfield 55, 3, []), (116, .invokevirtual 102, 3, []), (119, .ireturn, 1, []), (120, .aload_n 0, 1, []), (121, .getfield 12, 3, []), (124, .invokevirtual 105, 3, []), (127, .ireturn, 1, []), (128, .aload_n 0, 1, []), (129, .getfield 48, 3, []), (132, .invokevirtual 108, 3, []), (135, .ireturn, 1, []), (136, .bipush (-2), 2, []), (138, .ireturn, 1, [])]
theorem tbX8_value_ok : tbOK cX8_value tbX8_value = true := by decide +kernel
def tbX8_kind : TB := [(0, .aload_n 0, 1, []), (1, .getfield 12, 3, []), (4, .iload_n 1, 1, []), (5, .invokevirtual 111, 3, []), (8, .ifCond .eq 12, 3, [20]), (11, .aload_n 0, 1, []), (12, .getfield 16, 3, []), (15, .iload_n 1, 1, []), (16, .iaload, 1, []), (17, .goto 4, 3, [21]), (20, .iconst (-1), 1, []), (21, .ireturn, 1, [])]
theorem tbX8_kind_ok : tbOK cX8_kind tbX8_kind = true := by decide +kernel
def tbX8_neighbour : TB := [(0, .aload_n 0, 1, []), (1, .getfield 12, 3, []), (4, .iload_n 1, 1, []), (5, .invokevirtual 111, 3, []), (8, .ifCond .ne 5, 3, [13]), (11, .iconst (-1), 1, []), (12, .ireturn, 1, []), (13, .iload_n 2, 1, []), (14, .invokestatic 114, 3, []), (17, .ifCond .ne 6, 3, [23]), (20, .bipush (-2), 2, []), (22, .ireturn, 1, []), (23, .aload_n 0, 1, []), (24, .getfield 12, 3, []), (27, .iload_n 1, 1, []), (28, .iload_n 2, 1, []), (29, .invokevirtual 117, 3, []), (32, .ireturn, 1, [])]
theorem tbX8_neighbour_ok : tbOK cX8_neighbour tbX8_neighbour = true := by decide +kernel
def tbX8_type : TB := [(0, .aload_n 0, 1, []), (1, .getfield 32, 3, []), (4, .iload_n 1, 1, []), (5, .invokevirtual 121, 3, []), (8, .ireturn, 1, [])]
theorem tbX8_type_ok : tbOK cX8_type tbX8_type = true := by decide +kernel
def tbX8_clearText : TB := [(0, .aload_n 0, 1, []), (1, .getfield 32, 3, []), (4, .invokevirtual 125, 3, []), (7, .ireturn, 1, [])]
theorem tbX8_clearText_ok : tbOK cX8_clearText tbX8_clearText = true := by decide +kernel
def tbX8_readTiles : TB := [(0, .aload_n 0, 1, []), (1, .getfield 32, 3, []), (4, .aload_n 0, 1, []), (5, .getfield 12, 3, []), (8, .invokevirtual 74, 3, []), (11, .aload_n 0, 1, []), (12, .getfield 12, 3, []), (15, .invokevirtual 77, 3, []), (18, .invokevirtual 128, 3, []), (21, .istore_n 1, 1, []), (22, .iload_n 1, 1, []), (23, .iconst (-1), 1, []), (24, .if_icmp .eq 8, 3, [32]), (27, .bipush (-100), 2, []), (29, .iload_n 1, 1, []), (30, .isub, 1, []), (31, .ireturn, 1, []), (32, .aload_n 0, 1, []), (33, .getfield 48, 3, []), (36, .aload_n 0, 1, []), (37, .getfield 16, 3, []), (40, .invokevirtual 131, 3, []), (43, .aload_n 0, 1, []), (44, .invokevirtual 135, 3, []), (47, .istore_n 2, 1, []), (48, .aload_n 0, 1, []), (49, .invokevirtual 84, 3, []), (52, .iload_n 2, 1, []), (53, .ireturn, 1, [])]
theorem tbX8_readTiles_ok : tbOK cX8_readTiles tbX8_readTiles = true := by decide +kernel
def tbX8_walk : TB := [(0, .aload_n 0, 1, []), (1, .getfield 12, 3, []), (4, .iload_n 1, 1, []), (5, .invokevirtual 111, 3, []), (8, .ifCond .ne 5, 3, [13]), (11, .iconst (-1), 1, []), (12, .ireturn, 1, []), (13, .iload_n 2, 1, []), (14, .invokestatic 114, 3, []), (17, .ifCond .eq 12, 3, [29]), (20, .iload_n 3, 1, []), (21, .ifCond .lt 8, 3, [29]), (24, .iload_n 3, 1, []), (25, .iconst 4, 1, []), (26, .if_icmp .le 6, 3, [32]), (29, .bipush (-2), 2, []), (31, .ireturn, 1, []), (32, .aload_n 0, 1, []), (33, .getfield 32, 3, []), (36, .invokevirtual 138, 3, []), (39, .istore 4, 2, []), (41, .iload 4, 2, []), (43, .iconst (-1), 1, []), (44, .if_icmp .eq 9, 3, [53]), (47, .bipush (-100), 2, []), (49, .iload 4, 2, []), (51, .isub, 1, []), (52, .ireturn, 1, []), (53, .aload_n 0, 1, []), (54, .getfield 41, 3, []), (57, .aload_n 0, 1, []), (58, .getfield 32, 3, []), (61, .iload_n 1, 1, []), (62, .iload_n 2, 1, []), (63, .invokevirtual 141, 3, []), (66, .aload_n 0, 1, []), (67, .getfield 41, 3, []), (70, .iload_n 3, 1, []), (71, .invokevirtual 145, 3, []), (74, .ireturn, 1, [])]
theorem tbX8_walk_ok : tbOK cX8_walk tbX8_walk = true := by decide +kernel
def tbX8_setTile : TB := [(0, .aload_n 0, 1, []), (1, .getfield 12, 3, []), (4, .iload_n 1, 1, []), (5, .invokevirtual 111, 3, []), (8, .ifCond .ne 5, 3, [13]), (11, .iconst (-1), 1, []), (12, .ireturn, 1, []), (13, .iload_n 2, 1, []), (14, .invokestatic 149, 3, []), (17, .ifCond .ne 6, 3, [23]), (20, .bipush (-2), 2, []), (22, .ireturn, 1, []), (23, .aload_n 0, 1, []), (24, .getfield 48, 3, []), (27, .aload_n 0, 1, []), (28, .getfield 16, 3, []), (31, .invokevirtual 131, 3, []), (34, .aload_n 0, 1, []), (35, .getfield 16, 3, []), (38, .iload_n 1, 1, []), (39, .iload_n 2, 1, []), (40, .iastore, 1, []), (41, .aload_n 0, 1, []), (42, .invokevirtual 84, 3, []), (45, .aload_n 0, 1, []), (46, .getfield 55, 3, []), (49, .aload_n 0, 1, []), (50, .getfield 59, 3, []), (53, .iload_n 1, 1, []), (54, .invokevirtual 152, 3, []), (57, .ireturn, 1, [])]
theorem tbX8_setTile_ok : tbOK cX8_setTile tbX8_setTile = true := by decide +kernel
def tbX8_fill : TB := [(0, .aload_n 0, 1, []), (1, .getfield 12, 3, []), (4, .iload_n 1, 1, []), (5, .invokevirtual 111, 3, []), (8, .ifCond .ne 5, 3, [13]), (11, .iconst (-1), 1, []), (12, .ireturn, 1, []), (13, .iload_n 2, 1, []), (14, .invokestatic 149, 3, []), (17, .ifCond .ne 6, 3, [23]), (20, .bipush (-2), 2, []), (22, .ireturn, 1, []), (23, .aload_n 0, 1, []), (24, .getfield 48, 3, []), (27, .aload_n 0, 1, []), (28, .getfield 16, 3, []), (31, .invokevirtual 131, 3, []), (34, .aload_n 0, 1, []), (35, .aload_n 0, 1, []), (36, .getfield 55, 3, []), (39, .iload_n 1, 1, []), (40, .invokevirtual 156, 3, []), (43, .iload_n 2, 1, []), (44, .invokevirtual 159, 3, []), (47, .aload_n 0, 1, []), (48, .invokevirtual 84, 3, []), (51, .aload_n 0, 1, []), (52, .getfield 55, 3, []), (55, .aload_n 0, 1, []), (56, .getfield 55, 3, []), (59, .iload_n 1, 1, []), (60, .invokevirtual 156, 3, []), (63, .invokevirtual 162, 3, []), (66, .ireturn, 1, [])]
theorem tbX8_fill_ok : tbOK cX8_fill tbX8_fill = true := by decide +kernel
def tbX8_undo : TB := [(0, .aload_n 0, 1, []), (1, .getfield 48, 3, []), (4, .invokevirtual 108, 3, []), (7, .ifCond .ne 6, 3, [13]), (10, .bipush (-5), 2, []), (12, .ireturn, 1, []), (13, .aload_n 0, 1, []), (14, .getfield 48, 3, []), (17, .aload_n 0, 1, []), (18, .getfield 16, 3, []), (21, .invokevirtual 165, 3, []), (24, .aload_n 0, 1, []), (25, .invokevirtual 84, 3, []), (28, .aload_n 0, 1, []), (29, .getfield 48, 3, []), (32, .invokevirtual 108, 3, []), (35, .ireturn, 1, [])]
theorem tbX8_undo_ok : tbOK cX8_undo tbX8_undo = true := by decide +kernel
def tbX8_label : TB := [(0, .aload_n 0, 1, []), (1, .getfield 12, 3, []), (4, .iload_n 1, 1, []), (5, .invokevirtual 111, 3, []), (8, .ifCond .eq 14, 3, [22]), (11, .aload_n 0, 1, []), (12, .getfield 55, 3, []), (15, .iload_n 1, 1, []), (16, .invokevirtual 156, 3, []), (19, .goto 4, 3, [23]), (22, .iconst (-1), 1, []), (23, .ireturn, 1, [])]
theorem tbX8_label_ok : tbOK cX8_label tbX8_label = true := by decide +kernel
def tbX8_part : TB := [(0, .iload_n 1, 1, []), (1, .ifCond .ge 8, 3, [9]), (4, .bipush (-2), 2, []), (6, .goto 11, 3, [17]), (9, .aload_n 0, 1, []), (10, .getfield 55, 3, []), (13, .iload_n 1, 1, []), (14, .invokevirtual 168, 3, []), (17, .ireturn, 1, [])]
theorem tbX8_part_ok : tbOK cX8_part tbX8_part = true := by decide +kernel
def tbX8_ofPart : TB := [(0, .aload_n 0, 1, []), (1, .getfield 12, 3, []), (4, .iload_n 1, 1, []), (5, .invokevirtual 111, 3, []), (8, .ifCond .eq 15, 3, [23]), (11, .aload_n 0, 1, []), (12, .getfield 55, 3, []), (15, .iload_n 1, 1, []), (16, .invokevirtual 156, 3, []), (19, .iload_n 1, 1, []), (20, .if_icmp .eq 5, 3, [25]), (23, .iconst (-1), 1, []), (24, .ireturn, 1, []), (25, .iload_n 2, 1, []), (26, .ifCond .lt 9, 3, [35]), (29, .iload_n 2, 1, []), (30, .bipush 7, 2, []), (32, .if_icmp .le 6, 3, [38]), (35, .bipush (-2), 2, []), (37, .ireturn, 1, []), (38, .aload_n 0, 1, []), (39, .getfield 55, 3, []), (42, .iload_n 1, 1, []), (43, .iload_n 2, 1, []), (44, .invokevirtual 171, 3, []), (47, .ireturn, 1, [])]
theorem tbX8_ofPart_ok : tbOK cX8_ofPart tbX8_ofPart = true := by decide +kernel
def tbX8_greatestPart : TB := [(0, .iload_n 1, 1, []), (1, .invokestatic 149, 3, []), (4, .ifCond .eq 14, 3, [18]), (7, .aload_n 0, 1, []), (8, .getfield 55, 3, []), (11, .iload_n 1, 1, []), (12, .invokevirtual 174, 3, []), (15, .goto 5, 3, [20]), (18, .bipush (-2), 2, []), (20, .ireturn, 1, [])]
theorem tbX8_greatestPart_ok : tbOK cX8_greatestPart tbX8_greatestPart = true := by decide +kernel
def tbX8_partsIf : TB := [(0, .aload_n 0, 1, []), (1, .getfield 12, 3, []), (4, .iload_n 1, 1, []), (5, .invokevirtual 111, 3, []), (8, .ifCond .ne 5, 3, [13]), (11, .iconst (-1), 1, []), (12, .ireturn, 1, []), (13, .iload_n 2, 1, []), (14, .invokestatic 149, 3, []), (17, .ifCond .ne 6, 3, [23]), (20, .bipush (-2), 2, []), (22, .ireturn, 1, []), (23, .aload_n 0, 1, []), (24, .getfield 16, 3, []), (27, .iload_n 1, 1, []), (28, .iaload, 1, []), (29, .istore_n 3, 1, []), (30, .aload_n 0, 1, []), (31, .getfield 16, 3, []), (34, .iload_n 1, 1, []), (35, .iload_n 2, 1, []), (36, .iastore, 1, []), (37, .aload_n 0, 1, []), (38, .getfield 59, 3, []), (41, .invokevirtual 177, 3, []), (44, .aload_n 0, 1, []), (45, .getfield 16, 3, []), (48, .iload_n 1, 1, []), (49, .iload_n 3, 1, []), (50, .iastore, 1, []), (51, .aload_n 0, 1, []), (52, .getfield 59, 3, []), (55, .invokevirtual 102, 3, []), (58, .ireturn, 1, [])]
theorem tbX8_partsIf_ok : tbOK cX8_partsIf tbX8_partsIf = true := by decide +kernel
def tbX8_setWeight : TB := [(0, .iload_n 1, 1, []), (1, .invokestatic 149, 3, []), (4, .ifCond .eq 13, 3, [17]), (7, .iload_n 2, 1, []), (8, .ifCond .lt 9, 3, [17]), (11, .iload_n 2, 1, []), (12, .bipush 9, 2, []), (14, .if_icmp .le 6, 3, [20]), (17, .bipush (-2), 2, []), (19, .ireturn, 1, []), (20, .aload_n 0, 1, []), (21, .getfield 25, 3, []), (24, .iload_n 1, 1, []), (25, .iload_n 2, 1, []), (26, .invokevirtual 180, 3, []), (29, .ireturn, 1, [])]
theorem tbX8_setWeight_ok : tbOK cX8_setWeight tbX8_setWeight = true := by decide +kernel
def tbX8_distance : TB := [(0, .aload_n 0, 1, []), (1, .getfield 12, 3, []), (4, .iload_n 1, 1, []), (5, .invokevirtual 111, 3, []), (8, .ifCond .eq 14, 3, [22]), (11, .aload_n 0, 1, []), (12, .getfield 12, 3, []), (15, .iload_n 2, 1, []), (16, .invokevirtual 111, 3, []), (19, .ifCond .ne 5, 3, [24]), (22, .iconst (-1), 1, []), (23, .ireturn, 1, []), (24, .aload_n 0, 1, []), (25, .getfield 25, 3, []), (28, .iload_n 1, 1, []), (29, .invokevirtual 183, 3, []), (32, .aload_n 0, 1, []), (33, .getfield 25, 3, []), (36, .iload_n 2, 1, []), (37, .invokevirtual 187, 3, []), (40, .ireturn, 1, [])]
theorem tbX8_distance_ok : tbOK cX8_distance tbX8_distance = true := by decide +kernel
def tbX8_route : TB := [(0, .aload_n 0, 1, []), (1, .getfield 12, 3, []), (4, .iload_n 1, 1, []), (5, .invokevirtual 111, 3, []), (8, .ifCond .eq 14, 3, [22]), (11, .aload_n 0, 1, []), (12, .getfield 12, 3, []), (15, .iload_n 2, 1, []), (16, .invokevirtual 111, 3, []), (19, .ifCond .ne 5, 3, [24]), (22, .iconst (-1), 1, []), (23, .ireturn, 1, []), (24, .iload_n 3, 1, []), (25, .iconst (-1), 1, []), (26, .if_icmp .ge 6, 3, [32]), (29, .bipush (-2), 2, []), (31, .ireturn, 1, []), (32, .aload_n 0, 1, []), (33, .getfield 25, 3, []), (36, .iload_n 2, 1, []), (37, .invokevirtual 183, 3, []), (40, .aload_n 0, 1, []), (41, .getfield 25, 3, []), (44, .iload_n 1, 1, []), (45, .invokevirtual 187, 3, []), (48, .bipush (-4), 2, []), (50, .if_icmp .ne 8, 3, [58]), (53, .bipush (-4), 2, []), (55, .goto 13, 3, [68]), (58, .aload_n 0, 1, []), (59, .getfield 25, 3, []), (62, .iload_n 1, 1, []), (63, .iload_n 2, 1, []), (64, .iload_n 3, 1, []), (65, .invokevirtual 190, 3, []), (68, .ireturn, 1, [])]
theorem tbX8_route_ok : tbOK cX8_route tbX8_route = true := by decide +kernel
def tbX8_farthest : TB := [(0, .aload_n 0, 1, []), (1, .getfield 12, 3, []), (4, .iload_n 1, 1, []), (5, .invokevirtual 111, 3, []), (8, .ifCond .ne 5, 3, [13]), (11, .iconst (-1), 1, []), (12, .ireturn, 1, []), (13, .aload_n 0, 1, []), (14, .getfield 25, 3, []), (17, .iload_n 1, 1, []), (18, .invokevirtual 183, 3, []), (21, .aload_n 0, 1, []), (22, .getfield 25, 3, []), (25, .iload_n 1, 1, []), (26, .invokevirtual 194, 3, []), (29, .ireturn, 1, [])]
theorem tbX8_farthest_ok : tbOK cX8_farthest tbX8_farthest = true := by decide +kernel
def tbX8_within : TB := [(0, .aload_n 0, 1, []), (1, .getfield 12, 3, []), (4, .iload_n 1, 1, []), (5, .invokevirtual 111, 3, []), (8, .ifCond .ne 5, 3, [13]), (11, .iconst (-1), 1, []), (12, .ireturn, 1, []), (13, .iload_n 2, 1, []), (14, .ifCond .ge 6, 3, [20]), (17, .bipush (-2), 2, []), (19, .ireturn, 1, []), (20, .aload_n 0, 1, []), (21, .getfield 25, 3, []), (24, .iload_n 1, 1, []), (25, .invokevirtual 183, 3, []), (28, .aload_n 0, 1, []), (29, .getfield 25, 3, []), (32, .iload_n 2, 1, []), (33, .invokevirtual 197, 3, []), (36, .ireturn, 1, [])]
theorem tbX8_within_ok : tbOK cX8_within tbX8_within = true := by decide +kernel
def tbX8_nearest : TB := [(0, .aload_n 0, 1, []), (1, .getfield 12, 3, []), (4, .iload_n 1, 1, []), (5, .invokevirtual 111, 3, []), (8, .ifCond .ne 5, 3, [13]), (11, .iconst (-1), 1, []), (12, .ireturn, 1, []), (13, .iload_n 2, 1, []), (14, .invokestatic 149, 3, []), (17, .ifCond .ne 6, 3, [23]), (20, .bipush (-2), 2, []), (22, .ireturn, 1, []), (23, .aload_n 0, 1, []), (24, .getfield 25, 3, []), (27, .iload_n 1, 1, []), (28, .invokevirtual 183, 3, []), (31, .aload_n 0, 1, []), (32, .getfield 25, 3, []), (35, .iload_n 2, 1, []), (36, .invokevirtual 200, 3, []), (39, .ireturn, 1, [])]
theorem tbX8_nearest_ok : tbOK cX8_nearest tbX8_nearest = true := by decide +kernel
def tbX8_isSize : TB := [(0, .iload_n 0, 1, []), (1, .iconst 3, 1, []), (2, .if_icmp .lt 13, 3, [15]), (5, .iload_n 0, 1, []), (6, .bipush 12, 2, []), (8, .if_icmp .gt 7, 3, [15]), (11, .iconst 1, 1, []), (12, .goto 4, 3, [16]), (15, .iconst 0, 1, []), (16, .ireturn, 1, [])]
theorem tbX8_isSize_ok : tbOK cX8_isSize tbX8_isSize = true := by decide +kernel
def tbX8_isKind : TB := [(0, .iload_n 0, 1, []), (1, .ifCond .lt 13, 3, [14]), (4, .iload_n 0, 1, []), (5, .bipush 6, 2, []), (7, .if_icmp .ge 7, 3, [14]), (10, .iconst 1, 1, []), (11, .goto 4, 3, [15]), (14, .iconst 0, 1, []), (15, .ireturn, 1, [])]
theorem tbX8_isKind_ok : tbOK cX8_isKind tbX8_isKind = true := by decide +kernel
def tbX8_isDirection : TB := [(0, .iload_n 0, 1, []), (1, .ifCond .lt 12, 3, [13]), (4, .iload_n 0, 1, []), (5, .iconst 4, 1, []), (6, .if_icmp .ge 7, 3, [13]), (9, .iconst 1, 1, []), (10, .goto 4, 3, [14]), (13, .iconst 0, 1, []), (14, .ireturn, 1, [])]
theorem tbX8_isDirection_ok : tbOK cX8_isDirection tbX8_isDirection = true := by decide +kernel
def tbX8_beginAnew : TB := [(0, .iconst 0, 1, []), (1, .istore_n 3, 1, []), (2, .iload_n 3, 1, []), (3, .sipush 144, 3, []), (6, .if_icmp .ge 16, 3, [22]), (9, .aload_n 0, 1, []), (10, .getfield 16, 3, []), (13, .iload_n 3, 1, []), (14, .iconst 0, 1, []), (15, .iastore, 1, []), (16, .iinc 3 1, 3, []), (19, .goto (-17), 3, [2]), (22, .aload_n 0, 1, []), (23, .getfield 12, 3, []), (26, .iload_n 1, 1, []), (27, .iload_n 2, 1, []), (28, .invokevirtual 203, 3, []), (31, .aload_n 0, 1, []), (32, .getfield 25, 3, []), (35, .invokevirtual 206, 3, []), (38, .aload_n 0, 1, []), (39, .getfield 48, 3, []), (42, .invokevirtual 209, 3, []), (45, .aload_n 0, 1, []), (46, .getfield 55, 3, []), (49, .invokevirtual 177, 3, []), (52, .return_, 1, [])]
theorem tbX8_beginAnew_ok : tbOK cX8_beginAnew tbX8_beginAnew = true := by decide +kernel
def tbX8_repairParts : TB := [(0, .aload_n 0, 1, []), (1, .getfield 55, 3, []), (4, .astore_n 1, 1, []), (5, .aload_n 0, 1, []), (6, .aload_n 0, 1, []), (7, .getfield 59, 3, []), (10, .putfield 55, 3, []), (13, .aload_n 0, 1, []), (14, .aload_n 1, 1, []), (15, .putfield 59, 3, []), (18, .aload_n 0, 1, []), (19, .getfield 55, 3, []), (22, .invokevirtual 177, 3, []), (25, .return_, 1, [])]
theorem tbX8_repairParts_ok : tbOK cX8_repairParts tbX8_repairParts = true := by decide +kernel
def tbX8_takeKindsFromText : TB := [(0, .iconst 0, 1, []), (1, .istore_n 1, 1, []), (2, .iconst 0, 1, []), (3, .istore_n 2, 1, []), (4, .iconst 0, 1, []), (5, .istore_n 3, 1, []), (6, .iload_n 3, 1, []), (7, .aload_n 0, 1, []), (8, .getfield 12, 3, []), (11, .invokevirtual 77, 3, []), (14, .if_icmp .ge 74, 3, [88]), (17, .iconst 0, 1, []), (18, .istore 4, 2, []), (20, .iload 4, 2, []), (22, .aload_n 0, 1, []), (23, .getfield 12, 3, []), (26, .invokevirtual 74, 3, []), (29, .if_icmp .ge 53, 3, [82]), (32, .aload_n 0, 1, []), (33, .getfield 32, 3, []), (36, .iload 4, 2, []), (38, .iload_n 3, 1, []), (39, .aload_n 0, 1, []), (40, .getfield 12, 3, []), (43, .invokevirtual 74, 3, []), (46, .invokevirtual 212, 3, []), (49, .istore 5, 2, []), (51, .aload_n 0, 1, []), (52, .getfield 16, 3, []), (55, .iload_n 2, 1, []), (56, .iaload, 1, []), (57, .iload 5, 2, []), (59, .if_icmp .eq 14, 3, [73]), (62, .aload_n 0, 1, []), (63, .getfield 16, 3, []), (66, .iload_n 2, 1, []), (67, .iload 5, 2, []), (69, .iastore, 1, []), (70, .iinc 1 1, 3, []), (73, .iinc 2 1, 3, []), (76, .iinc 4 1, 3, []), (79, .goto (-59), 3, [20]), (82, .iinc 3 1, 3, []), (85, .goto (-79), 3, [6]), (88, .iload_n 1, 1, []), (89, .ireturn, 1, [])]
theorem tbX8_takeKindsFromText_ok : tbOK cX8_takeKindsFromText tbX8_takeKindsFromText = true := by decide +kernel
def tbX8_giveKindToPart : TB := [(0, .iconst 0, 1, []), (1, .istore_n 3, 1, []), (2, .iload_n 3, 1, []), (3, .aload_n 0, 1, []), (4, .getfield 12, 3, []), (7, .invokevirtual 70, 3, []), (10, .if_icmp .ge 28, 3, [38]), (13, .aload_n 0, 1, []), (14, .getfield 55, 3, []), (17, .iload_n 3, 1, []), (18, .invokevirtual 156, 3, []), (21, .iload_n 1, 1, []), (22, .if_icmp .ne 10, 3, [32]), (25, .aload_n 0, 1, []), (26, .getfield 16, 3, []), (29, .iload_n 3, 1, []), (30, .iload_n 2, 1, []), (31, .iastore, 1, []), (32, .iinc 3 1, 3, []), (35, .goto (-33), 3, [2]), (38, .return_, 1, [])]
theorem tbX8_giveKindToPart_ok : tbOK cX8_giveKindToPart tbX8_giveKindToPart = true := by decide +kernel
def tbX9_in : TB := [(0, .iload_n 0, 1, []), (1, .iload_n 1, 1, []), (2, .if_icmp .lt 12, 3, [14]), (5, .iload_n 0, 1, []), (6, .iload_n 2, 1, []), (7, .if_icmp .gt 7, 3, [14]), (10, .iconst 1, 1, []), (11, .goto 4, 3, [15]), (14, .iconst 0, 1, []), (15, .ireturn, 1, [])]
theorem tbX9_in_ok : tbOK cX9_in tbX9_in = true := by decide +kernel
def tbX9_modulo : TB := [(0, .iload_n 0, 1, []), (1, .iload_n 1, 1, []), (2, .irem, 1, []), (3, .iload_n 1, 1, []), (4, .iadd, 1, []), (5, .iload_n 1, 1, []), (6, .irem, 1, []), (7, .ireturn, 1, [])]
theorem tbX9_modulo_ok : tbOK cX9_modulo tbX9_modulo = true := by decide +kernel
def tbX9_isKind : TB := [(0, .iload_n 0, 1, []), (1, .iconst 0, 1, []), (2, .iconst 5, 1, []), (3, .invokestatic 49, 3, []), (6, .ireturn, 1, [])]
theorem tbX9_isKind_ok : tbOK cX9_isKind tbX9_isKind = true := by decide +kernel
def tbX9_begin : TB := [(0, .aload_n 0, 1, []), (1, .iload_n 1, 1, []), (2, .putfield 53, 3, []), (5, .aload_n 0, 1, []), (6, .iload_n 2, 1, []), (7, .putfield 57, 3, []), (10, .aload_n 0, 1, []), (11, .aload_n 0, 1, []), (12, .getfield 53, 3, []), (15, .aload_n 0, 1, []), (16, .getfield 57, 3, []), (19, .imul, 1, []), (20, .putfield 60, 3, []), (23, .iconst 0, 1, []), (24, .istore_n 3, 1, []), (25, .iload_n 3, 1, []), (26, .sipush 144, 3, []), (29, .if_icmp .ge 16, 3, [45]), (32, .aload_n 0, 1, []), (33, .getfield 7, 3, []), (36, .iload_n 3, 1, []), (37, .iconst 0, 1, []), (38, .iastore, 1, []), (39, .iinc 3 1, 3, []), (42, .goto (-17), 3, [25]), (45, .iconst 0, 1, []), (46, .istore_n 3, 1, []), (47, .iload_n 3, 1, []), (48, .bipush 6, 2, []), (50, .if_icmp .ge 16, 3, [66]), (53, .aload_n 0, 1, []), (54, .getfield 13, 3, []), (57, .iload_n 3, 1, []), (58, .iconst 1, 1, []), (59, .iastore, 1, []), (60, .iinc 3 1, 3, []), (63, .goto (-16), 3, [47]), (66, .aload_n 0, 1, []), (67, .iconst 0, 1, []), (68, .putfield 63, 3, []), (71, .aload_n 0, 1, []), (72, .iconst 0, 1, []), (73, .putfield 66, 3, []), (76, .aload_n 0, 1, []), (77, .iconst 0, 1, []), (78, .putfield 69, 3, []), (81, .aload_n 0, 1, []), (82, .iconst 0, 1, []), (83, .putfield 72, 3, []), (86, .aload_n 0, 1, []), (87, .iconst 0, 1, []), (88, .putfield 75, 3, []), (91, .return_, 1, [])]
theorem tbX9_begin_ok : tbOK cX9_begin tbX9_begin = true := by decide +kernel
def tbX9_reset : TB := [(0, .iload_n 1, 1, []), (1, .iconst 3, 1, []), (2, .bipush 12, 2, []), (4, .invokestatic 49, 3, []), (7, .ifCond .eq 13, 3, [20]), (10, .iload_n 2, 1, []), (11, .iconst 3, 1, []), (12, .bipush 12, 2, []), (14, .invokestatic 49, 3, []), (17, .ifCond .ne 6, 3, [23]), (20, .bipush (-2), 2, []), (22, .ireturn, 1, []), (23, .aload_n 0, 1, []), (24, .iload_n 1, 1, []), (25, .iload_n 2, 1, []), (26, .invokevirtual 45, 3, []), (29, .aload_n 0, 1, []), (30, .getfield 60, 3, []), (33, .ireturn, 1, [])]
theorem tbX9_reset_ok : tbOK cX9_reset tbX9_reset = true := by decide +kernel
def tbX9_setSeam : TB := [(0, .iload_n 2, 1, []), (1, .iconst 0, 1, []), (2, .iconst 2, 1, []), (3, .invokestatic 49, 3, []), (6, .ifCond .eq 28, 3, [34]), (9, .iload_n 3, 1, []), (10, .iconst 0, 1, []), (11, .iload_n 1, 1, []), (12, .ifCond .eq 10, 3, [22]), (15, .aload_n 0, 1, []), (16, .getfield 53, 3, []), (19, .goto 7, 3, [26]), (22, .aload_n 0, 1, []), (23, .getfield 57, 3, []), (26, .iconst 1, 1, []), (27, .isub, 1, []), (28, .invokestatic 49, 3, []), (31, .ifCond .ne 6, 3, [37]), (34, .bipush (-2), 2, []), (36, .ireturn, 1, []), (37, .iload_n 1, 1, []), (38, .ifCond .eq 22, 3, [60]), (41, .aload_n 0, 1, []), (42, .getfield 69, 3, []), (45, .iload_n 2, 1, []), (46, .if_icmp .ne 30, 3, [76]), (49, .aload_n 0, 1, []), (50, .getfield 72, 3, []), (53, .iload_n 3, 1, []), (54, .if_icmp .eq 26, 3, [80]), (57, .goto 19, 3, [76]), (60, .aload_n 0, 1, []), (61, .getfield 63, 3, []), (64, .iload_n 2, 1, []), (65, .if_icmp .ne 11, 3, [76]), (68, .aload_n 0, 1, []), (69, .getfield 66, 3, []), (72, .iload_n 3, 1, []), (73, .if_icmp .eq 7, 3, [80]), (76, .iconst 1, 1, []), (77, .goto 4, 3, [81]), (80, .iconst 0, 1, []), (81, .istore 4, 2, []), (83, .aload_n 0, 1, []), (84, .iload_n 1, 1, []), (85, .ifCond .eq 7, 3, [92]), (88, .iload_n 2, 1, []), (89, .goto 7, 3, [96]), (92, .aload_n 0, 1, []), (93, .getfield 69, 3, []), (96, .putfield 69, 3, []), (99, .aload_n 0, 1, []), (100, .iload_n 1, 1, []), (101, .ifCond .eq 7, 3, [108]), (104, .iload_n 3, 1, []), (105, .goto 7, 3, [112]), (108, .aload_n 0, 1, []), (109, .getfield 72, 3, []), (112, .putfield 72, 3, []), (115, .aload_n 0, 1, []), (116, .iload_n 1, 1, []), (117, .ifCond .eq 10, 3, [127]), (120, .aload_n 0, 1, []), (121, .getfield 63, 3, []), (124, .goto 4, 3, [128]), (127, .iload_n 2, 1, []), (128, .putfield 63, 3, []), (131, .aload_n 0, 1, []), (132, .iload_n 1, 1, []), (133, .ifCond .eq 10, 3, [143]), (136, .aload_n 0, 1, []), (137, .getfield 66, 3, []), (140, .goto 4, 3, [144]), (143, .iload_n 3, 1, []), (144, .putfield 66, 3, []), (147, .iload 4, 2, []), (149, .ireturn, 1, [])]
theorem tbX9_setSeam_ok : tbOK cX9_setSeam tbX9_setSeam = true := by decide +kernel
def tbX9_noTile : TB := [(0, .iload_n 1, 1, []), (1, .iconst 0, 1, []), (2, .aload_n 0, 1, []), (3, .getfield 60, 3, []), (6, .iconst 1, 1, []), (7, .isub, 1, []), (8, .invokestatic 49, 3, []), (11, .ifCond .ne 7, 3, [18]), (14, .iconst 1, 1, []), (15, .goto 4, 3, [19]), (18, .iconst 0, 1, []), (19, .ireturn, 1, [])]
theorem tbX9_noTile_ok : tbOK cX9_noTile tbX9_noTile = true := by decide +kernel
def tbX9_seamOf : TB := [(0, .iload_n 1, 1, []), (1, .aload_n 0, 1, []), (2, .getfield 53, 3, []), (5, .irem, 1, []), (6, .istore_n 3, 1, []), (7, .iload_n 1, 1, []), (8, .aload_n 0, 1, []), (9, .getfield 53, 3, []), (12, .idiv, 1, []), (13, .istore 4, 2, []), (15, .iload_n 2, 1, []), (16, .ifCond .ne 13, 3, [29]), (19, .iload_n 3, 1, []), (20, .aload_n 0, 1, []), (21, .getfield 53, 3, []), (24, .iconst 1, 1, []), (25, .isub, 1, []), (26, .if_icmp .eq 12, 3, [38]), (29, .iload_n 2, 1, []), (30, .iconst 2, 1, []), (31, .if_icmp .ne 11, 3, [42]), (34, .iload_n 3, 1, []), (35, .ifCond .ne 7, 3, [42]), (38, .iconst 1, 1, []), (39, .goto 34, 3, [73]), (42, .iload_n 2, 1, []), (43, .iconst 1, 1, []), (44, .if_icmp .ne 14, 3, [58]), (47, .iload 4, 2, []), (49, .aload_n 0, 1, []), (50, .getfield 57, 3, []), (53, .iconst 1, 1, []), (54, .isub, 1, []), (55, .if_icmp .eq 13, 3, [68]), (58, .iload_n 2, 1, []), (59, .iconst 3, 1, []), (60, .if_icmp .ne 12, 3, [72]), (63, .iload 4, 2, []), (65, .ifCond .ne 7, 3, [72]), (68, .iconst 2, 1, []), (69, .goto 4, 3, [73]), (72, .iconst 0, 1, []), (73, .ireturn, 1, [])]
theorem tbX9_seamOf_ok : tbOK cX9_seamOf tbX9_seamOf = true := by decide +kernel
def tbX9_across : TB := [(0, .iload_n 0, 1, []), (1, .iconst 2, 1, []), (2, .if_icmp .ne 13, 3, [15]), (5, .iload_n 1, 1, []), (6, .iload_n 2, 1, []), (7, .isub, 1, []), (8, .iload_n 3, 1, []), (9, .invokestatic 78, 3, []), (12, .goto 21, 3, [33]), (15, .iload 4, 2, []), (17, .ifCond .eq 9, 3, [26]), (20, .iload_n 2, 1, []), (21, .iload_n 1, 1, []), (22, .iadd, 1, []), (23, .goto 6, 3, [29]), (26, .iload_n 2, 1, []), (27, .iload_n 1, 1, []), (28, .isub, 1, []), (29, .iload_n 3, 1, []), (30, .invokestatic 78, 3, []), (33, .ireturn, 1, [])]
theorem tbX9_across_ok : tbOK cX9_across tbX9_across = true := by decide +kernel
def tbX9_next : TB := [(0, .iload_n 1, 1, []), (1, .aload_n 0, 1, []), (2, .getfield 53, 3, []), (5, .irem, 1, []), (6, .istore_n 3, 1, []), (7, .iload_n 1, 1, []), (8, .aload_n 0, 1, []), (9, .getfield 53, 3, []), (12, .idiv, 1, []), (13, .istore 4, 2, []), (15, .aload_n 0, 1, []), (16, .iload_n 1, 1, []), (17, .iload_n 2, 1, []), (18, .invokevirtual 82, 3, []), (21, .istore 5, 2, []), (23, .iload 5, 2, []), (25, .iconst 1, 1, []), (26, .if_icmp .ne 62, 3, [88]), (29, .aload_n 0, 1, []), (30, .getfield 63, 3, []), (33, .ifCond .ne 8, 3, [41]), (36, .bipush (-5), 2, []), (38, .goto 49, 3, [87]), (41, .aload_n 0, 1, []), (42, .getfield 53, 3, []), (45, .aload_n 0, 1, []), (46, .getfield 63, 3, []), (49, .aload_n 0, 1, []), (50, .getfield 66, 3, []), (53, .iload 4, 2, []), (55, .aload_n 0, 1, []), (56, .getfield 57, 3, []), (59, .iload_n 2, 1, []), (60, .ifCond .ne 7, 3, [67]), (63, .iconst 1, 1, []), (64, .goto 4, 3, [68]), (67, .iconst 0, 1, []), (68, .invokestatic 85, 3, []), (71, .imul, 1, []), (72, .iload_n 2, 1, []), (73, .ifCond .ne 7, 3, [80]), (76, .iconst 0, 1, []), (77, .goto 9, 3, [86]), (80, .aload_n 0, 1, []), (81, .getfield 53, 3, []), (84, .iconst 1, 1, []), (85, .isub, 1, []), (86, .iadd, 1, []), (87, .ireturn, 1, []), (88, .iload 5, 2, []), (90, .iconst 2, 1, []), (91, .if_icmp .ne 63, 3, [154]), (94, .aload_n 0, 1, []), (95, .getfield 69, 3, []), (98, .ifCond .ne 8, 3, [106]), (101, .bipush (-5), 2, []), (103, .goto 50, 3, [153]), (106, .aload_n 0, 1, []), (107, .getfield 69, 3, []), (110, .aload_n 0, 1, []), (111, .getfield 72, 3, []), (114, .iload_n 3, 1, []), (115, .aload_n 0, 1, []), (116, .getfield 53, 3, []), (119, .iload_n 2, 1, []), (120, .iconst 1, 1, []), (121, .if_icmp .ne 7, 3, [128]), (124, .iconst 1, 1, []), (125, .goto 4, 3, [129]), (128, .iconst 0, 1, []), (129, .invokestatic 85, 3, []), (132, .iload_n 2, 1, []), (133, .iconst 1, 1, []), (134, .if_icmp .ne 7, 3, [141]), (137, .iconst 0, 1, []), (138, .goto 14, 3, [152]), (141, .aload_n 0, 1, []), (142, .getfield 53, 3, []), (145, .aload_n 0, 1, []), (146, .getfield 57, 3, []), (149, .iconst 1, 1, []), (150, .isub, 1, []), (151, .imul, 1, []), (152, .iadd, 1, []), (153, .ireturn, 1, []), (154, .iload_n 2, 1, []), (155, .ifCond .ne 9, 3, [164]), (158, .iload_n 1, 1, []), (159, .iconst 1, 1, []), (160, .iadd, 1, []), (161, .goto 34, 3, [195]), (164, .iload_n 2, 1, []), (165, .iconst 1, 1, []), (166, .if_icmp .ne 12, 3, [178]), (169, .iload_n 1, 1, []), (170, .aload_n 0, 1, []), (171, .getfield 53, 3, []), (174, .iadd, 1, []), (175, .goto 20, 3, [195]), (178, .iload_n 2, 1, []), (179, .iconst 2, 1, []), (180, .if_icmp .ne 9, 3, [189]), (183, .iload_n 1, 1, []), (184, .iconst 1, 1, []), (185, .isub, 1, []), (186, .goto 9, 3, [195]), (189, .iload_n 1, 1, []), (190, .aload_n 0, 1, []), (191, .getfield 53, 3, []), (194, .isub, 1, []), (195, .ireturn, 1, [])]
theorem tbX9_next_ok : tbOK cX9_next tbX9_next = true := by decide +kernel
def tbX9_pairs : TB := [(0, .iconst 0, 1, []), (1, .istore_n 1, 1, []), (2, .iconst 0, 1, []), (3, .istore_n 2, 1, []), (4, .iload_n 2, 1, []), (5, .iconst 4, 1, []), (6, .aload_n 0, 1, []), (7, .getfield 60, 3, []), (10, .imul, 1, []), (11, .if_icmp .ge 30, 3, [41]), (14, .iload_n 1, 1, []), (15, .aload_n 0, 1, []), (16, .iload_n 2, 1, []), (17, .iconst 4, 1, []), (18, .idiv, 1, []), (19, .iload_n 2, 1, []), (20, .iconst 4, 1, []), (21, .irem, 1, []), (22, .invokevirtual 89, 3, []), (25, .ifCond .lt 7, 3, [32]), (28, .iconst 1, 1, []), (29, .goto 4, 3, [33]), (32, .iconst 0, 1, []), (33, .iadd, 1, []), (34, .istore_n 1, 1, []), (35, .iinc 2 1, 3, []), (38, .goto (-34), 3, [4]), (41, .iload_n 1, 1, []), (42, .ireturn, 1, [])]
theorem tbX9_pairs_ok : tbOK cX9_pairs tbX9_pairs = true := by decide +kernel
def tbX9_value : TB := [(0, .iload_n 1, 1, []), (1, .tableswitch 96 0 8 #[51, 56, 61, 66, 71, 76, 81, 86, 91], 51, [97, 52, 57, 62, 67, 72, 77, 82, 87, 92]), (52, .aload_n 0, 1, []), (53, .getfield 53, 3, []), (56, .ireturn, 1, []), (57, .aload_n 0, 1, []), (58, .getfield 57, 3, []), (61, .ireturn, 1, []), (62, .aload_n 0, 1, []), (63, .getfield 63, 3, []), (66, .ireturn, 1, []), (67, .aload_n 0, 1, []), (68, .getfield 66, 3, []), (71, .ireturn, 1, []), (72, .aload_n 0, 1, []), (73, .getfield 69, 3, []), (76, .ireturn, 1, []), (77, .aload_n 0, 1, []), (78, .getfield 72, 3, []), (81, .ireturn, 1, []), (82, .aload_n 0, 1, []), (83, .invokevirtual 92, 3, []), (86, .ireturn, 1, []), (87, .aload_n 0, 1, []), (88, .invokevirtual 96, 3, []), (91, .ireturn, 1, []), (92, .aload_n 0, 1, []), (93, .getfield 75, 3, []), (96, .ireturn, 1, []), (97, .bipush (-2), 2, []), (99, .ireturn, 1, [])]
theorem tbX9_value_ok : tbOK cX9_value tbX9_value = true := by decide +kernel
def tbX9_kind : TB := [(0, .aload_n 0, 1, []), (1, .iload_n 1, 1, []), (2, .invokevirtual 99, 3, []), (5, .ifCond .eq 7, 3, [12]), (8, .iconst (-1), 1, []), (9, .goto 9, 3, [18]), (12, .aload_n 0, 1, []), (13, .getfield 7, 3, []), (16, .iload_n 1, 1, []), (17, .iaload, 1, []), (18, .ireturn, 1, [])]
theorem tbX9_kind_ok : tbOK cX9_kind tbX9_kind = true := by decide +kernel
def tbX9_neighbour : TB := [(0, .aload_n 0, 1, []), (1, .iload_n 1, 1, []), (2, .invokevirtual 99, 3, []), (5, .ifCond .eq 5, 3, [10]), (8, .iconst (-1), 1, []), (9, .ireturn, 1, []), (10, .iload_n 2, 1, []), (11, .iconst 0, 1, []), (12, .iconst 3, 1, []), (13, .invokestatic 49, 3, []), (16, .ifCond .eq 12, 3, [28]), (19, .aload_n 0, 1, []), (20, .iload_n 1, 1, []), (21, .iload_n 2, 1, []), (22, .invokevirtual 89, 3, []), (25, .goto 5, 3, [30]), (28, .bipush (-2), 2, []), (30, .ireturn, 1, [])]
theorem tbX9_neighbour_ok : tbOK cX9_neighbour tbX9_neighbour = true := by decide +kernel
def tbX9_type : TB := [(0, .aload_n 0, 1, []), (1, .getfield 103, 3, []), (4, .sipush 160, 3, []), (7, .if_icmp .ne 6, 3, [13]), (10, .bipush (-3), 2, []), (12, .ireturn, 1, []), (13, .aload_n 0, 1, []), (14, .getfield 16, 3, []), (17, .aload_n 0, 1, []), (18, .getfield 103, 3, []), (21, .iload_n 1, 1, []), (22, .castore, 1, []), (23, .aload_n 0, 1, []), (24, .dup, 1, []), (25, .getfield 103, 3, []), (28, .iconst 1, 1, []), (29, .iadd, 1, []), (30, .putfield 103, 3, []), (33, .aload_n 0, 1, []), (34, .getfield 103, 3, []), (37, .ireturn, 1, [])]
theorem tbX9_type_ok : tbOK cX9_type tbX9_type = true := by decide +kernel
def tbX9_clearText : TB := [(0, .aload_n 0, 1, []), (1, .getfield 103, 3, []), (4, .istore_n 1, 1, []), (5, .aload_n 0, 1, []), (6, .iconst 0, 1, []), (7, .putfield 103, 3, []), (10, .iload_n 1, 1, []), (11, .ireturn, 1, [])]
theorem tbX9_clearText_ok : tbOK cX9_clearText tbX9_clearText = true := by decide +kernel
def tbX9_readTiles : TB := [(0, .aload_n 0, 1, []), (1, .getfield 57, 3, []), (4, .aload_n 0, 1, []), (5, .getfield 53, 3, []), (8, .iconst 1, 1, []), (9, .iadd, 1, []), (10, .imul, 1, []), (11, .iconst 1, 1, []), (12, .isub, 1, []), (13, .istore_n 1, 1, []), (14, .iconst 0, 1, []), (15, .istore_n 2, 1, []), (16, .iload_n 2, 1, []), (17, .aload_n 0, 1, []), (18, .getfield 103, 3, []), (21, .if_icmp .ge 80, 3, [101]), (24, .iload_n 2, 1, []), (25, .iload_n 1, 1, []), (26, .if_icmp .ge 58, 3, [84]), (29, .iload_n 2, 1, []), (30, .aload_n 0, 1, []), (31, .getfield 53, 3, []), (34, .iconst 1, 1, []), (35, .iadd, 1, []), (36, .irem, 1, []), (37, .aload_n 0, 1, []), (38, .getfield 53, 3, []), (41, .if_icmp .ne 17, 3, [58]), (44, .aload_n 0, 1, []), (45, .getfield 16, 3, []), (48, .iload_n 2, 1, []), (49, .caload, 1, []), (50, .bipush 47, 2, []), (52, .if_icmp .ne 32, 3, [84]), (55, .goto 25, 3, [80]), (58, .aload_n 0, 1, []), (59, .getfield 16, 3, []), (62, .iload_n 2, 1, []), (63, .caload, 1, []), (64, .bipush 48, 2, []), (66, .if_icmp .lt 18, 3, [84]), (69, .aload_n 0, 1, []), (70, .getfield 16, 3, []), (73, .iload_n 2, 1, []), (74, .caload, 1, []), (75, .bipush 53, 2, []), (77, .if_icmp .gt 7, 3, [84]), (80, .iconst 1, 1, []), (81, .goto 4, 3, [85]), (84, .iconst 0, 1, []), (85, .istore_n 3, 1, []), (86, .iload_n 3, 1, []), (87, .ifCond .ne 8, 3, [95]), (90, .bipush (-100), 2, []), (92, .iload_n 2, 1, []), (93, .isub, 1, []), (94, .ireturn, 1, []), (95, .iinc 2 1, 3, []), (98, .goto (-82), 3, [16]), (101, .aload_n 0, 1, []), (102, .getfield 103, 3, []), (105, .iload_n 1, 1, []), (106, .if_icmp .ge 11, 3, [117]), (109, .bipush (-100), 2, []), (111, .aload_n 0, 1, []), (112, .getfield 103, 3, []), (115, .isub, 1, []), (116, .ireturn, 1, []), (117, .aload_n 0, 1, []), (118, .invokevirtual 106, 3, []), (121, .iconst 0, 1, []), (122, .istore_n 2, 1, []), (123, .iconst 0, 1, []), (124, .istore_n 3, 1, []), (125, .iload_n 3, 1, []), (126, .aload_n 0, 1, []), (127, .getfield 60, 3, []), (130, .if_icmp .ge 66, 3, [196]), (133, .aload_n 0, 1, []), (134, .getfield 16, 3, []), (137, .iload_n 3, 1, []), (138, .aload_n 0, 1, []), (139, .getfield 53, 3, []), (142, .idiv, 1, []), (143, .aload_n 0, 1, []), (144, .getfield 53, 3, []), (147, .iconst 1, 1, []), (148, .iadd, 1, []), (149, .imul, 1, []), (150, .iload_n 3, 1, []), (151, .aload_n 0, 1, []), (152, .getfield 53, 3, []), (155, .irem, 1, []), (156, .iadd, 1, []), (157, .caload, 1, []), (158, .bipush 48, 2, []), (160, .isub, 1, []), (161, .istore 4, 2, []), (163, .iload_n 2, 1, []), (164, .iload 4, 2, []), (166, .aload_n 0, 1, []), (167, .getfield 7, 3, []), (170, .iload_n 3, 1, []), (171, .iaload, 1, []), (172, .if_icmp .eq 7, 3, [179]), (175, .iconst 1, 1, []), (176, .goto 4, 3, [180]), (179, .iconst 0, 1, []), (180, .iadd, 1, []), (181, .istore_n 2, 1, []), (182, .aload_n 0, 1, []), (183, .getfield 7, 3, []), (186, .iload_n 3, 1, []), (187, .iload 4, 2, []), (189, .iastore, 1, []), (190, .iinc 3 1, 3, []), (193, .goto (-68), 3, [125]), (196, .iload_n 2, 1, []), (197, .ireturn, 1, [])]
theorem tbX9_readTiles_ok : tbOK cX9_readTiles tbX9_readTiles = true := by decide +kernel
def tbX9_walk : TB := [(0, .aload_n 0, 1, []), (1, .iload_n 1, 1, []), (2, .invokevirtual 99, 3, []), (5, .ifCond .eq 5, 3, [10]), (8, .iconst (-1), 1, []), (9, .ireturn, 1, []), (10, .iload_n 2, 1, []), (11, .iconst 0, 1, []), (12, .iconst 3, 1, []), (13, .invokestatic 49, 3, []), (16, .ifCond .eq 12, 3, [28]), (19, .iload_n 3, 1, []), (20, .iconst 0, 1, []), (21, .iconst 4, 1, []), (22, .invokestatic 49, 3, []), (25, .ifCond .ne 6, 3, [31]), (28, .bipush (-2), 2, []), (30, .ireturn, 1, []), (31, .iconst 0, 1, []), (32, .istore 4, 2, []), (34, .iload 4, 2, []), (36, .aload_n 0, 1, []), (37, .getfield 103, 3, []), (40, .if_icmp .ge 51, 3, [91]), (43, .aload_n 0, 1, []), (44, .getfield 16, 3, []), (47, .iload 4, 2, []), (49, .caload, 1, []), (50, .bipush 102, 2, []), (52, .if_icmp .eq 33, 3, [85]), (55, .aload_n 0, 1, []), (56, .getfield 16, 3, []), (59, .iload 4, 2, []), (61, .caload, 1, []), (62, .bipush 114, 2, []), (64, .if_icmp .eq 21, 3, [85]), (67, .aload_n 0, 1, []), (68, .getfield 16, 3, []), (71, .iload 4, 2, []), (73, .caload, 1, []), (74, .bipush 108, 2, []), (76, .if_icmp .eq 9, 3, [85]), (79, .bipush (-100), 2, []), (81, .iload 4, 2, []), (83, .isub, 1, []), (84, .ireturn, 1, []), (85, .iinc 4 1, 3, []), (88, .goto (-54), 3, [34]), (91, .iconst 0, 1, []), (92, .istore 4, 2, []), (94, .iload 4, 2, []), (96, .sipush 144, 3, []), (99, .if_icmp .ge 27, 3, [126]), (102, .aload_n 0, 1, []), (103, .getfield 20, 3, []), (106, .iload 4, 2, []), (108, .iload 4, 2, []), (110, .iload_n 1, 1, []), (111, .if_icmp .ne 7, 3, [118]), (114, .iconst 1, 1, []), (115, .goto 4, 3, [119]), (118, .iconst 0, 1, []), (119, .bastore, 1, []), (120, .iinc 4 1, 3, []), (123, .goto (-29), 3, [94]), (126, .iload_n 1, 1, []), (127, .istore 4, 2, []), (129, .iload_n 2, 1, []), (130, .istore 5, 2, []), (132, .iconst 0, 1, []), (133, .istore 6, 2, []), (135, .iconst 0, 1, []), (136, .istore 7, 2, []), (138, .iconst 1, 1, []), (139, .istore 8, 2, []), (141, .iconst 1, 1, []), (142, .istore 9, 2, []), (144, .iconst 0, 1, []), (145, .istore 10, 2, []), (147, .iload 10, 2, []), (149, .aload_n 0, 1, []), (150, .getfield 103, 3, []), (153, .if_icmp .ge 228, 3, [381]), (156, .iload 9, 2, []), (158, .ifCond .eq 223, 3, [381]), (161, .aload_n 0, 1, []), (162, .getfield 16, 3, []), (165, .iload 10, 2, []), (167, .caload, 1, []), (168, .bipush 102, 2, []), (170, .if_icmp .ne 151, 3, [321]), (173, .aload_n 0, 1, []), (174, .iload 4, 2, []), (176, .iload 5, 2, []), (178, .invokevirtual 89, 3, []), (181, .istore 11, 2, []), (183, .iload 11, 2, []), (185, .ifCond .lt 7, 3, [192]), (188, .iconst 1, 1, []), (189, .goto 4, 3, [193]), (192, .iconst 0, 1, []), (193, .istore 9, 2, []), (195, .aload_n 0, 1, []), (196, .iload 4, 2, []), (198, .iload 5, 2, []), (200, .invokevirtual 82, 3, []), (203, .istore 12, 2, []), (205, .iload 9, 2, []), (207, .ifCond .eq 35, 3, [242]), (210, .iload 12, 2, []), (212, .iconst 1, 1, []), (213, .if_icmp .ne 11, 3, [224]), (216, .aload_n 0, 1, []), (217, .getfield 63, 3, []), (220, .iconst 2, 1, []), (221, .if_icmp .eq 17, 3, [238]), (224, .iload 12, 2, []), (226, .iconst 2, 1, []), (227, .if_icmp .ne 15, 3, [242]), (230, .aload_n 0, 1, []), (231, .getfield 69, 3, []), (234, .iconst 2, 1, []), (235, .if_icmp .ne 7, 3, [242]), (238, .iconst 1, 1, []), (239, .goto 4, 3, [243]), (242, .iconst 0, 1, []), (243, .istore 13, 2, []), (245, .iload 13, 2, []), (247, .ifCond .eq 10, 3, [257]), (250, .iconst 1, 1, []), (251, .iload 6, 2, []), (253, .isub, 1, []), (254, .goto 5, 3, [259]), (257, .iload 6, 2, []), (259, .istore 6, 2, []), (261, .iload 9, 2, []), (263, .ifCond .eq 8, 3, [271]), (266, .iload 11, 2, []), (268, .goto 5, 3, [273]), (271, .iload 4, 2, []), (273, .istore 4, 2, []), (275, .iload 7, 2, []), (277, .iload 9, 2, []), (279, .ifCond .eq 7, 3, [286]), (282, .iconst 1, 1, []), (283, .goto 4, 3, [287]), (286, .iconst 0, 1, []), (287, .iadd, 1, []), (288, .istore 7, 2, []), (290, .iload 8, 2, []), (292, .aload_n 0, 1, []), (293, .getfield 20, 3, []), (296, .iload 4, 2, []), (298, .baload, 1, []), (299, .ifCond .eq 7, 3, [306]), (302, .iconst 0, 1, []), (303, .goto 4, 3, [307]), (306, .iconst 1, 1, []), (307, .iadd, 1, []), (308, .istore 8, 2, []), (310, .aload_n 0, 1, []), (311, .getfield 20, 3, []), (314, .iload 4, 2, []), (316, .iconst 1, 1, []), (317, .bastore, 1, []), (318, .goto 57, 3, [375]), (321, .aload_n 0, 1, []), (322, .getfield 16, 3, []), (325, .iload 10, 2, []), (327, .caload, 1, []), (328, .bipush 114, 2, []), (330, .if_icmp .ne 7, 3, [337]), (333, .iconst 1, 1, []), (334, .goto 4, 3, [338]), (337, .iconst 0, 1, []), (338, .iload 6, 2, []), (340, .ifCond .ne 7, 3, [347]), (343, .iconst 1, 1, []), (344, .goto 4, 3, [348]), (347, .iconst 0, 1, []), (348, .if_icmp .ne 7, 3, [355]), (351, .iconst 1, 1, []), (352, .goto 4, 3, [356]), (355, .iconst 0, 1, []), (356, .istore 11, 2, []), (358, .iload 5, 2, []), (360, .iload 11, 2, []), (362, .ifCond .eq 7, 3, [369]), (365, .iconst 1, 1, []), (366, .goto 4, 3, [370]), (369, .iconst 3, 1, []), (370, .iadd, 1, []), (371, .iconst 4, 1, []), (372, .irem, 1, []), (373, .istore 5, 2, []), (375, .iinc 10 1, 3, []), (378, .goto (-231), 3, [147]), (381, .iload_n 3, 1, []), (382, .ifCond .ne 8, 3, [390]), (385, .iload 4, 2, []), (387, .goto 35, 3, [422]), (390, .iload_n 3, 1, []), (391, .iconst 1, 1, []), (392, .if_icmp .ne 8, 3, [400]), (395, .iload 5, 2, []), (397, .goto 25, 3, [422]), (400, .iload_n 3, 1, []), (401, .iconst 2, 1, []), (402, .if_icmp .ne 8, 3, [410]), (405, .iload 6, 2, []), (407, .goto 15, 3, [422]), (410, .iload_n 3, 1, []), (411, .iconst 3, 1, []), (412, .if_icmp .ne 8, 3, [420]), (415, .iload 7, 2, []), (417, .goto 5, 3, [422]), (420, .iload 8, 2, []), (422, .ireturn, 1, [])]
theorem tbX9_walk_ok : tbOK cX9_walk tbX9_walk = true := by decide +kernel
def tbX9_spread : TB := [(0, .iconst 0, 1, []), (1, .istore_n 2, 1, []), (2, .iconst 1, 1, []), (3, .istore_n 3, 1, []), (4, .aload_n 0, 1, []), (5, .getfield 33, 3, []), (8, .iconst 0, 1, []), (9, .iload_n 1, 1, []), (10, .iastore, 1, []), (11, .aload_n 0, 1, []), (12, .getfield 24, 3, []), (15, .iload_n 1, 1, []), (16, .iload_n 1, 1, []), (17, .iastore, 1, []), (18, .aload_n 0, 1, []), (19, .getfield 27, 3, []), (22, .iload_n 1, 1, []), (23, .iconst 0, 1, []), (24, .iastore, 1, []), (25, .aload_n 0, 1, []), (26, .getfield 30, 3, []), (29, .iload_n 1, 1, []), (30, .iconst 0, 1, []), (31, .iastore, 1, []), (32, .iload_n 2, 1, []), (33, .iload_n 3, 1, []), (34, .if_icmp .ge 132, 3, [166]), (37, .aload_n 0, 1, []), (38, .getfield 33, 3, []), (41, .iload_n 2, 1, []), (42, .iaload, 1, []), (43, .istore 4, 2, []), (45, .iinc 2 1, 3, []), (48, .iconst 0, 1, []), (49, .istore 5, 2, []), (51, .iload 5, 2, []), (53, .iconst 4, 1, []), (54, .if_icmp .ge 109, 3, [163]), (57, .aload_n 0, 1, []), (58, .iload 4, 2, []), (60, .iload 5, 2, []), (62, .invokevirtual 89, 3, []), (65, .istore 6, 2, []), (67, .iload 6, 2, []), (69, .ifCond .lt 88, 3, [157]), (72, .aload_n 0, 1, []), (73, .getfield 24, 3, []), (76, .iload 6, 2, []), (78, .iaload, 1, []), (79, .ifCond .ge 78, 3, [157]), (82, .aload_n 0, 1, []), (83, .getfield 7, 3, []), (86, .iload 6, 2, []), (88, .iaload, 1, []), (89, .aload_n 0, 1, []), (90, .getfield 7, 3, []), (93, .iload 4, 2, []), (95, .iaload, 1, []), (96, .if_icmp .ne 61, 3, [157]), (99, .aload_n 0, 1, []), (100, .getfield 24, 3, []), (103, .iload 6, 2, []), (105, .iload_n 1, 1, []), (106, .iastore, 1, []), (107, .aload_n 0, 1, []), (108, .getfield 27, 3, []), (111, .iload 6, 2, []), (113, .aload_n 0, 1, []), (114, .getfield 27, 3, []), (117, .iload 4, 2, []), (119, .iaload, 1, []), (120, .aload_n 0, 1, []), (121, .iload 4, 2, []), (123, .iload 5, 2, []), (125, .invokevirtual 82, 3, []), (128, .ixor, 1, []), (129, .iastore, 1, []), (130, .aload_n 0, 1, []), (131, .getfield 30, 3, []), (134, .iload 6, 2, []), (136, .aload_n 0, 1, []), (137, .getfield 30, 3, []), (140, .iload 4, 2, []), (142, .iaload, 1, []), (143, .iconst 1, 1, []), (144, .iadd, 1, []), (145, .iastore, 1, []), (146, .aload_n 0, 1, []), (147, .getfield 33, 3, []), (150, .iload_n 3, 1, []), (151, .iload 6, 2, []), (153, .iastore, 1, []), (154, .iinc 3 1, 3, []), (157, .iinc 5 1, 3, []), (160, .goto (-109), 3, [51]), (163, .goto (-131), 3, [32]), (166, .return_, 1, [])]
theorem tbX9_spread_ok : tbOK cX9_spread tbX9_spread = true := by decide +kernel
def tbX9_layLabels : TB := [(0, .iconst 0, 1, []), (1, .istore_n 1, 1, []), (2, .iload_n 1, 1, []), (3, .aload_n 0, 1, []), (4, .getfield 60, 3, []), (7, .if_icmp .ge 16, 3, [23]), (10, .aload_n 0, 1, []), (11, .getfield 24, 3, []), (14, .iload_n 1, 1, []), (15, .iconst (-1), 1, []), (16, .iastore, 1, []), (17, .iinc 1 1, 3, []), (20, .goto (-18), 3, [2]), (23, .iconst 0, 1, []), (24, .istore_n 1, 1, []), (25, .iload_n 1, 1, []), (26, .aload_n 0, 1, []), (27, .getfield 60, 3, []), (30, .if_icmp .ge 23, 3, [53]), (33, .aload_n 0, 1, []), (34, .getfield 24, 3, []), (37, .iload_n 1, 1, []), (38, .iaload, 1, []), (39, .ifCond .ge 8, 3, [47]), (42, .aload_n 0, 1, []), (43, .iload_n 1, 1, []), (44, .invokevirtual 109, 3, []), (47, .iinc 1 1, 3, []), (50, .goto (-25), 3, [25]), (53, .return_, 1, [])]
theorem tbX9_layLabels_ok : tbOK cX9_layLabels tbX9_layLabels = true := by decide +kernel
def tbX9_parts : TB := [(0, .aload_n 0, 1, []), (1, .invokevirtual 113, 3, []), (4, .iconst 0, 1, []), (5, .istore_n 1, 1, []), (6, .iconst 0, 1, []), (7, .istore_n 2, 1, []), (8, .iload_n 2, 1, []), (9, .aload_n 0, 1, []), (10, .getfield 60, 3, []), (13, .if_icmp .ge 27, 3, [40]), (16, .iload_n 1, 1, []), (17, .aload_n 0, 1, []), (18, .getfield 24, 3, []), (21, .iload_n 2, 1, []), (22, .iaload, 1, []), (23, .iload_n 2, 1, []), (24, .if_icmp .ne 7, 3, [31]), (27, .iconst 1, 1, []), (28, .goto 4, 3, [32]), (31, .iconst 0, 1, []), (32, .iadd, 1, []), (33, .istore_n 1, 1, []), (34, .iinc 2 1, 3, []), (37, .goto (-29), 3, [8]), (40, .iload_n 1, 1, []), (41, .ireturn, 1, [])]
theorem tbX9_parts_ok : tbOK cX9_parts tbX9_parts = true := by decide +kernel
def tbX9_label : TB := [(0, .aload_n 0, 1, []), (1, .iload_n 1, 1, []), (2, .invokevirtual 99, 3, []), (5, .ifCond .eq 5, 3, [10]), (8, .iconst (-1), 1, []), (9, .ireturn, 1, []), (10, .aload_n 0, 1, []), (11, .invokevirtual 113, 3, []), (14, .aload_n 0, 1, []), (15, .getfield 24, 3, []), (18, .iload_n 1, 1, []), (19, .iaload, 1, []), (20, .ireturn, 1, [])]
theorem tbX9_label_ok : tbOK cX9_label tbX9_label = true := by decide +kernel
def tbX9_part : TB := [(0, .iload_n 1, 1, []), (1, .ifCond .ge 6, 3, [7]), (4, .bipush (-2), 2, []), (6, .ireturn, 1, []), (7, .aload_n 0, 1, []), (8, .invokevirtual 113, 3, []), (11, .iconst 0, 1, []), (12, .istore_n 2, 1, []), (13, .iconst 0, 1, []), (14, .istore_n 3, 1, []), (15, .iload_n 3, 1, []), (16, .aload_n 0, 1, []), (17, .getfield 60, 3, []), (20, .if_icmp .ge 29, 3, [49]), (23, .aload_n 0, 1, []), (24, .getfield 24, 3, []), (27, .iload_n 3, 1, []), (28, .iaload, 1, []), (29, .iload_n 3, 1, []), (30, .if_icmp .ne 13, 3, [43]), (33, .iload_n 2, 1, []), (34, .iload_n 1, 1, []), (35, .if_icmp .ne 5, 3, [40]), (38, .iload_n 3, 1, []), (39, .ireturn, 1, []), (40, .iinc 2 1, 3, []), (43, .iinc 3 1, 3, []), (46, .goto (-31), 3, [15]), (49, .bipush (-5), 2, []), (51, .ireturn, 1, [])]
theorem tbX9_part_ok : tbOK cX9_part tbX9_part = true := by decide +kernel
def tbX9_sizeOf : TB := [(0, .iconst 0, 1, []), (1, .istore_n 2, 1, []), (2, .iconst 0, 1, []), (3, .istore_n 3, 1, []), (4, .iload_n 3, 1, []), (5, .aload_n 0, 1, []), (6, .getfield 60, 3, []), (9, .if_icmp .ge 27, 3, [36]), (12, .iload_n 2, 1, []), (13, .aload_n 0, 1, []), (14, .getfield 24, 3, []), (17, .iload_n 3, 1, []), (18, .iaload, 1, []), (19, .iload_n 1, 1, []), (20, .if_icmp .ne 7, 3, [27]), (23, .iconst 1, 1, []), (24, .goto 4, 3, [28]), (27, .iconst 0, 1, []), (28, .iadd, 1, []), (29, .istore_n 2, 1, []), (30, .iinc 3 1, 3, []), (33, .goto (-29), 3, [4]), (36, .iload_n 2, 1, []), (37, .ireturn, 1, [])]
theorem tbX9_sizeOf_ok : tbOK cX9_sizeOf tbX9_sizeOf = true := by decide +kernel
def tbX9_border : TB := [(0, .iconst 0, 1, []), (1, .istore_n 3, 1, []), (2, .iconst 0, 1, []), (3, .istore 4, 2, []), (5, .iload 4, 2, []), (7, .iconst 4, 1, []), (8, .aload_n 0, 1, []), (9, .getfield 60, 3, []), (12, .imul, 1, []), (13, .if_icmp .ge 97, 3, [110]), (16, .iload 4, 2, []), (18, .iconst 4, 1, []), (19, .idiv, 1, []), (20, .istore 5, 2, []), (22, .aload_n 0, 1, []), (23, .iload 5, 2, []), (25, .iload 4, 2, []), (27, .iconst 4, 1, []), (28, .irem, 1, []), (29, .invokevirtual 89, 3, []), (32, .istore 6, 2, []), (34, .iload_n 2, 1, []), (35, .ifCond .eq 16, 3, [51]), (38, .iload 6, 2, []), (40, .ifCond .ge 7, 3, [47]), (43, .iconst 1, 1, []), (44, .goto 34, 3, [78]), (47, .iconst 0, 1, []), (48, .goto 30, 3, [78]), (51, .iload 6, 2, []), (53, .ifCond .lt 24, 3, [77]), (56, .aload_n 0, 1, []), (57, .getfield 7, 3, []), (60, .iload 6, 2, []), (62, .iaload, 1, []), (63, .aload_n 0, 1, []), (64, .getfield 7, 3, []), (67, .iload 5, 2, []), (69, .iaload, 1, []), (70, .if_icmp .eq 7, 3, [77]), (73, .iconst 1, 1, []), (74, .goto 4, 3, [78]), (77, .iconst 0, 1, []), (78, .istore 7, 2, []), (80, .iload_n 3, 1, []), (81, .aload_n 0, 1, []), (82, .getfield 24, 3, []), (85, .iload 5, 2, []), (87, .iaload, 1, []), (88, .iload_n 1, 1, []), (89, .if_icmp .ne 12, 3, [101]), (92, .iload 7, 2, []), (94, .ifCond .eq 7, 3, [101]), (97, .iconst 1, 1, []), (98, .goto 4, 3, [102]), (101, .iconst 0, 1, []), (102, .iadd, 1, []), (103, .istore_n 3, 1, []), (104, .iinc 4 1, 3, []), (107, .goto (-102), 3, [5]), (110, .iload_n 3, 1, []), (111, .ireturn, 1, [])]
theorem tbX9_border_ok : tbOK cX9_border tbX9_border = true := by decide +kernel
def tbX9_loops : TB := [(0, .iconst 1, 1, []), (1, .istore_n 2, 1, []), (2, .iconst 0, 1, []), (3, .istore_n 3, 1, []), (4, .iload_n 3, 1, []), (5, .iconst 4, 1, []), (6, .aload_n 0, 1, []), (7, .getfield 60, 3, []), (10, .imul, 1, []), (11, .if_icmp .ge 128, 3, [139]), (14, .iload_n 3, 1, []), (15, .iconst 4, 1, []), (16, .idiv, 1, []), (17, .istore 4, 2, []), (19, .aload_n 0, 1, []), (20, .iload 4, 2, []), (22, .iload_n 3, 1, []), (23, .iconst 4, 1, []), (24, .irem, 1, []), (25, .invokevirtual 89, 3, []), (28, .istore 5, 2, []), (30, .aload_n 0, 1, []), (31, .getfield 24, 3, []), (34, .iload 4, 2, []), (36, .iaload, 1, []), (37, .iload_n 1, 1, []), (38, .if_icmp .ne 95, 3, [133]), (41, .iload 5, 2, []), (43, .ifCond .lt 90, 3, [133]), (46, .aload_n 0, 1, []), (47, .getfield 24, 3, []), (50, .iload 5, 2, []), (52, .iaload, 1, []), (53, .iload_n 1, 1, []), (54, .if_icmp .ne 79, 3, [133]), (57, .aload_n 0, 1, []), (58, .getfield 27, 3, []), (61, .iload 4, 2, []), (63, .iaload, 1, []), (64, .aload_n 0, 1, []), (65, .getfield 27, 3, []), (68, .iload 5, 2, []), (70, .iaload, 1, []), (71, .ixor, 1, []), (72, .aload_n 0, 1, []), (73, .iload 4, 2, []), (75, .iload_n 3, 1, []), (76, .iconst 4, 1, []), (77, .irem, 1, []), (78, .invokevirtual 82, 3, []), (81, .ixor, 1, []), (82, .istore 6, 2, []), (84, .iconst 0, 1, []), (85, .istore 7, 2, []), (87, .iconst 0, 1, []), (88, .istore 8, 2, []), (90, .iload 8, 2, []), (92, .iconst 4, 1, []), (93, .if_icmp .ge 35, 3, [128]), (96, .iload 7, 2, []), (98, .iload_n 2, 1, []), (99, .iload 8, 2, []), (101, .ishr, 1, []), (102, .iconst 1, 1, []), (103, .iand, 1, []), (104, .iconst 1, 1, []), (105, .if_icmp .ne 13, 3, [118]), (108, .iconst 1, 1, []), (109, .iload 8, 2, []), (111, .iload 6, 2, []), (113, .ixor, 1, []), (114, .ishl, 1, []), (115, .goto 4, 3, [119]), (118, .iconst 0, 1, []), (119, .ior, 1, []), (120, .istore 7, 2, []), (122, .iinc 8 1, 3, []), (125, .goto (-35), 3, [90]), (128, .iload_n 2, 1, []), (129, .iload 7, 2, []), (131, .ior, 1, []), (132, .istore_n 2, 1, []), (133, .iinc 3 1, 3, []), (136, .goto (-132), 3, [4]), (139, .iload_n 2, 1, []), (140, .ireturn, 1, [])]
theorem tbX9_loops_ok : tbOK cX9_loops tbX9_loops = true := by decide +kernel
def tbX9_isOneSided : TB := [(0, .aload_n 0, 1, []), (1, .iload_n 1, 1, []), (2, .invokevirtual 116, 3, []), (5, .istore_n 2, 1, []), (6, .iconst 0, 1, []), (7, .istore_n 3, 1, []), (8, .iconst 1, 1, []), (9, .istore 4, 2, []), (11, .iload 4, 2, []), (13, .iconst 4, 1, []), (14, .if_icmp .ge 86, 3, [100]), (17, .iload 4, 2, []), (19, .iconst 1, 1, []), (20, .iand, 1, []), (21, .iconst 1, 1, []), (22, .if_icmp .ne 15, 3, [37]), (25, .aload_n 0, 1, []), (26, .getfield 63, 3, []), (29, .iconst 2, 1, []), (30, .if_icmp .ne 7, 3, [37]), (33, .iconst 1, 1, []), (34, .goto 4, 3, [38]), (37, .iconst 0, 1, []), (38, .iload 4, 2, []), (40, .iconst 2, 1, []), (41, .iand, 1, []), (42, .iconst 2, 1, []), (43, .if_icmp .ne 15, 3, [58]), (46, .aload_n 0, 1, []), (47, .getfield 69, 3, []), (50, .iconst 2, 1, []), (51, .if_icmp .ne 7, 3, [58]), (54, .iconst 1, 1, []), (55, .goto 4, 3, [59]), (58, .iconst 0, 1, []), (59, .if_icmp .eq 7, 3, [66]), (62, .iconst 1, 1, []), (63, .goto 4, 3, [67]), (66, .iconst 0, 1, []), (67, .istore 5, 2, []), (69, .iload_n 3, 1, []), (70, .ifCond .ne 18, 3, [88]), (73, .iload_n 2, 1, []), (74, .iload 4, 2, []), (76, .ishr, 1, []), (77, .iconst 1, 1, []), (78, .iand, 1, []), (79, .iconst 1, 1, []), (80, .if_icmp .ne 12, 3, [92]), (83, .iload 5, 2, []), (85, .ifCond .eq 7, 3, [92]), (88, .iconst 1, 1, []), (89, .goto 4, 3, [93]), (92, .iconst 0, 1, []), (93, .istore_n 3, 1, []), (94, .iinc 4 1, 3, []), (97, .goto (-86), 3, [11]), (100, .iload_n 3, 1, []), (101, .ireturn, 1, [])]
theorem tbX9_isOneSided_ok : tbOK cX9_isOneSided tbX9_isOneSided = true := by decide +kernel
def tbX9_besides : TB := [(0, .iconst 0, 1, []), (1, .istore_n 2, 1, []), (2, .iload_n 2, 1, []), (3, .aload_n 0, 1, []), (4, .getfield 60, 3, []), (7, .if_icmp .ge 16, 3, [23]), (10, .aload_n 0, 1, []), (11, .getfield 20, 3, []), (14, .iload_n 2, 1, []), (15, .iconst 0, 1, []), (16, .bastore, 1, []), (17, .iinc 2 1, 3, []), (20, .goto (-18), 3, [2]), (23, .iconst 0, 1, []), (24, .istore_n 2, 1, []), (25, .iconst 0, 1, []), (26, .istore_n 3, 1, []), (27, .iload_n 3, 1, []), (28, .iconst 4, 1, []), (29, .aload_n 0, 1, []), (30, .getfield 60, 3, []), (33, .imul, 1, []), (34, .if_icmp .ge 80, 3, [114]), (37, .aload_n 0, 1, []), (38, .iload_n 3, 1, []), (39, .iconst 4, 1, []), (40, .idiv, 1, []), (41, .iload_n 3, 1, []), (42, .iconst 4, 1, []), (43, .irem, 1, []), (44, .invokevirtual 89, 3, []), (47, .istore 4, 2, []), (49, .aload_n 0, 1, []), (50, .getfield 24, 3, []), (53, .iload_n 3, 1, []), (54, .iconst 4, 1, []), (55, .idiv, 1, []), (56, .iaload, 1, []), (57, .iload_n 1, 1, []), (58, .if_icmp .ne 50, 3, [108]), (61, .iload 4, 2, []), (63, .ifCond .lt 45, 3, [108]), (66, .aload_n 0, 1, []), (67, .getfield 24, 3, []), (70, .iload 4, 2, []), (72, .iaload, 1, []), (73, .iload_n 1, 1, []), (74, .if_icmp .eq 34, 3, [108]), (77, .aload_n 0, 1, []), (78, .getfield 20, 3, []), (81, .aload_n 0, 1, []), (82, .getfield 24, 3, []), (85, .iload 4, 2, []), (87, .iaload, 1, []), (88, .baload, 1, []), (89, .ifCond .ne 19, 3, [108]), (92, .aload_n 0, 1, []), (93, .getfield 20, 3, []), (96, .aload_n 0, 1, []), (97, .getfield 24, 3, []), (100, .iload 4, 2, []), (102, .iaload, 1, []), (103, .iconst 1, 1, []), (104, .bastore, 1, []), (105, .iinc 2 1, 3, []), (108, .iinc 3 1, 3, []), (111, .goto (-84), 3, [27]), (114, .iload_n 2, 1, []), (115, .ireturn, 1, [])]
theorem tbX9_besides_ok : tbOK cX9_besides tbX9_besides = true := by decide +kernel
def tbX9_reach : TB := [(0, .iconst 0, 1, []), (1, .istore_n 2, 1, []), (2, .iconst 0, 1, []), (3, .istore_n 3, 1, []), (4, .iload_n 3, 1, []), (5, .aload_n 0, 1, []), (6, .getfield 60, 3, []), (9, .if_icmp .ge 40, 3, [49]), (12, .aload_n 0, 1, []), (13, .getfield 24, 3, []), (16, .iload_n 3, 1, []), (17, .iaload, 1, []), (18, .iload_n 1, 1, []), (19, .if_icmp .ne 22, 3, [41]), (22, .aload_n 0, 1, []), (23, .getfield 30, 3, []), (26, .iload_n 3, 1, []), (27, .iaload, 1, []), (28, .iload_n 2, 1, []), (29, .if_icmp .le 12, 3, [41]), (32, .aload_n 0, 1, []), (33, .getfield 30, 3, []), (36, .iload_n 3, 1, []), (37, .iaload, 1, []), (38, .goto 4, 3, [42]), (41, .iload_n 2, 1, []), (42, .istore_n 2, 1, []), (43, .iinc 3 1, 3, []), (46, .goto (-42), 3, [4]), (49, .iload_n 2, 1, []), (50, .ireturn, 1, [])]
theorem tbX9_reach_ok : tbOK cX9_reach tbX9_reach = true := by decide +kernel
def tbX9_ofPart : TB := [(0, .aload_n 0, 1, []), (1, .invokevirtual 113, 3, []), (4, .aload_n 0, 1, []), (5, .iload_n 1, 1, []), (6, .invokevirtual 99, 3, []), (9, .ifCond .ne 13, 3, [22]), (12, .aload_n 0, 1, []), (13, .getfield 24, 3, []), (16, .iload_n 1, 1, []), (17, .iaload, 1, []), (18, .iload_n 1, 1, []), (19, .if_icmp .eq 5, 3, [24]), (22, .iconst (-1), 1, []), (23, .ireturn, 1, []), (24, .iload_n 2, 1, []), (25, .tableswitch 106 0 7 #[47, 54, 60, 67, 74, 80, 94, 100], 47, [131, 72, 79, 85, 92, 99, 105, 119, 125]), (72, .aload_n 0, 1, []), (73, .getfield 7, 3, []), (76, .iload_n 1, 1, []), (77, .iaload, 1, []), (78, .ireturn, 1, []), (79, .aload_n 0, 1, []), (80, .iload_n 1, 1, []), (81, .invokevirtual 120, 3, []), (84, .ireturn, 1, []), (85, .aload_n 0, 1, []), (86, .iload_n 1, 1, []), (87, .iconst 0, 1, []), (88, .invokevirtual 123, 3, []), (91, .ireturn, 1, []), (92, .aload_n 0, 1, []), (93, .iload_n 1, 1, []), (94, .iconst 1, 1, []), (95, .invokevirtual 123, 3, []), (98, .ireturn, 1, []), (99, .aload_n 0, 1, []), (100, .iload_n 1, 1, []), (101, .invokevirtual 116, 3, []), (104, .ireturn, 1, []), (105, .aload_n 0, 1, []), (106, .iload_n 1, 1, []), (107, .invokevirtual 127, 3, []), (110, .ifCond .eq 7, 3, [117]), (113, .iconst 1, 1, []), (114, .goto 4, 3, [118]), (117, .iconst 0, 1, []), (118, .ireturn, 1, []), (119, .aload_n 0, 1, []), (120, .iload_n 1, 1, []), (121, .invokevirtual 130, 3, []), (124, .ireturn, 1, []), (125, .aload_n 0, 1, []), (126, .iload_n 1, 1, []), (127, .invokevirtual 133, 3, []), (130, .ireturn, 1, []), (131, .bipush (-2), 2, []), (133, .ireturn, 1, [])]
theorem tbX9_ofPart_ok : tbOK cX9_ofPart tbX9_ofPart = true := by decide +kernel
def tbX9_greatestPart : TB := [(0, .iload_n 1, 1, []), (1, .invokestatic 136, 3, []), (4, .ifCond .ne 6, 3, [10]), (7, .bipush (-2), 2, []), (9, .ireturn, 1, []), (10, .aload_n 0, 1, []), (11, .invokevirtual 113, 3, []), (14, .bipush (-5), 2, []), (16, .istore_n 2, 1, []), (17, .iconst 0, 1, []), (18, .istore_n 3, 1, []), (19, .iconst 0, 1, []), (20, .istore 4, 2, []), (22, .iload 4, 2, []), (24, .aload_n 0, 1, []), (25, .getfield 60, 3, []), (28, .if_icmp .ge 52, 3, [80]), (31, .aload_n 0, 1, []), (32, .getfield 24, 3, []), (35, .iload 4, 2, []), (37, .iaload, 1, []), (38, .iload 4, 2, []), (40, .if_icmp .ne 34, 3, [74]), (43, .aload_n 0, 1, []), (44, .getfield 7, 3, []), (47, .iload 4, 2, []), (49, .iaload, 1, []), (50, .iload_n 1, 1, []), (51, .if_icmp .ne 23, 3, [74]), (54, .aload_n 0, 1, []), (55, .iload 4, 2, []), (57, .invokevirtual 120, 3, []), (60, .iload_n 3, 1, []), (61, .if_icmp .le 13, 3, [74]), (64, .iload 4, 2, []), (66, .istore_n 2, 1, []), (67, .aload_n 0, 1, []), (68, .iload 4, 2, []), (70, .invokevirtual 120, 3, []), (73, .istore_n 3, 1, []), (74, .iinc 4 1, 3, []), (77, .goto (-55), 3, [22]), (80, .iload_n 2, 1, []), (81, .ireturn, 1, [])]
theorem tbX9_greatestPart_ok : tbOK cX9_greatestPart tbX9_greatestPart = true := by decide +kernel
def tbX9_partsIf : TB := [(0, .aload_n 0, 1, []), (1, .iload_n 1, 1, []), (2, .invokevirtual 99, 3, []), (5, .ifCond .eq 5, 3, [10]), (8, .iconst (-1), 1, []), (9, .ireturn, 1, []), (10, .iload_n 2, 1, []), (11, .invokestatic 136, 3, []), (14, .ifCond .ne 6, 3, [20]), (17, .bipush (-2), 2, []), (19, .ireturn, 1, []), (20, .aload_n 0, 1, []), (21, .getfield 7, 3, []), (24, .iload_n 1, 1, []), (25, .iaload, 1, []), (26, .istore_n 3, 1, []), (27, .aload_n 0, 1, []), (28, .getfield 7, 3, []), (31, .iload_n 1, 1, []), (32, .iload_n 2, 1, []), (33, .iastore, 1, []), (34, .aload_n 0, 1, []), (35, .invokevirtual 92, 3, []), (38, .istore 4, 2, []), (40, .aload_n 0, 1, []), (41, .getfield 7, 3, []), (44, .iload_n 1, 1, []), (45, .iload_n 3, 1, []), (46, .iastore, 1, []), (47, .iload 4, 2, []), (49, .ireturn, 1, [])]
theorem tbX9_partsIf_ok : tbOK cX9_partsIf tbX9_partsIf = true := by decide +kernel
def tbX9_keep : TB := [(0, .aload_n 0, 1, []), (1, .getfield 75, 3, []), (4, .bipush 12, 2, []), (6, .if_icmp .ne 49, 3, [55]), (9, .aload_n 0, 1, []), (10, .dup, 1, []), (11, .getfield 75, 3, []), (14, .iconst 1, 1, []), (15, .isub, 1, []), (16, .putfield 75, 3, []), (19, .iconst 0, 1, []), (20, .istore_n 1, 1, []), (21, .iload_n 1, 1, []), (22, .sipush 144, 3, []), (25, .aload_n 0, 1, []), (26, .getfield 75, 3, []), (29, .imul, 1, []), (30, .if_icmp .ge 25, 3, [55]), (33, .aload_n 0, 1, []), (34, .getfield 36, 3, []), (37, .iload_n 1, 1, []), (38, .aload_n 0, 1, []), (39, .getfield 36, 3, []), (42, .iload_n 1, 1, []), (43, .sipush 144, 3, []), (46, .iadd, 1, []), (47, .iaload, 1, []), (48, .iastore, 1, []), (49, .iinc 1 1, 3, []), (52, .goto (-31), 3, [21]), (55, .iconst 0, 1, []), (56, .istore_n 1, 1, []), (57, .iload_n 1, 1, []), (58, .sipush 144, 3, []), (61, .if_icmp .ge 30, 3, [91]), (64, .aload_n 0, 1, []), (65, .getfield 36, 3, []), (68, .sipush 144, 3, []), (71, .aload_n 0, 1, []), (72, .getfield 75, 3, []), (75, .imul, 1, []), (76, .iload_n 1, 1, []), (77, .iadd, 1, []), (78, .aload_n 0, 1, []), (79, .getfield 7, 3, []), (82, .iload_n 1, 1, []), (83, .iaload, 1, []), (84, .iastore, 1, []), (85, .iinc 1 1, 3, []), (88, .goto (-31), 3, [57]), (91, .aload_n 0, 1, []), (92, .dup, 1, []), (93, .getfield 75, 3, []), (96, .iconst 1, 1, []), (97, .iadd, 1, []), (98, .putfield 75, 3, []), (101, .return_, 1, [])]
theorem tbX9_keep_ok : tbOK cX9_keep tbX9_keep = true := by decide +kernel
def tbX9_undo : TB := [(0, .aload_n 0, 1, []), (1, .getfield 75, 3, []), (4, .ifCond .ne 6, 3, [10]), (7, .bipush (-5), 2, []), (9, .ireturn, 1, []), (10, .aload_n 0, 1, []), (11, .dup, 1, []), (12, .getfield 75, 3, []), (15, .iconst 1, 1, []), (16, .isub, 1, []), (17, .putfield 75, 3, []), (20, .iconst 0, 1, []), (21, .istore_n 1, 1, []), (22, .iload_n 1, 1, []), (23, .sipush 144, 3, []), (26, .if_icmp .ge 30, 3, [56]), (29, .aload_n 0, 1, []), (30, .getfield 7, 3, []), (33, .iload_n 1, 1, []), (34, .aload_n 0, 1, []), (35, .getfield 36, 3, []), (38, .sipush 144, 3, []), (41, .aload_n 0, 1, []), (42, .getfield 75, 3, []), (45, .imul, 1, []), (46, .iload_n 1, 1, []), (47, .iadd, 1, []), (48, .iaload, 1, []), (49, .iastore, 1, []), (50, .iinc 1 1, 3, []), (53, .goto (-31), 3, [22]), (56, .aload_n 0, 1, []), (57, .getfield 75, 3, []), (60, .ireturn, 1, [])]
theorem tbX9_undo_ok : tbOK cX9_undo tbX9_undo = true := by decide +kernel
def tbX9_setTile : TB := [(0, .aload_n 0, 1, []), (1, .iload_n 1, 1, []), (2, .invokevirtual 99, 3, []), (5, .ifCond .eq 5, 3, [10]), (8, .iconst (-1), 1, []), (9, .ireturn, 1, []), (10, .iload_n 2, 1, []), (11, .invokestatic 136, 3, []), (14, .ifCond .ne 6, 3, [20]), (17, .bipush (-2), 2, []), (19, .ireturn, 1, []), (20, .aload_n 0, 1, []), (21, .invokevirtual 106, 3, []), (24, .aload_n 0, 1, []), (25, .invokevirtual 113, 3, []), (28, .iconst 0, 1, []), (29, .istore_n 3, 1, []), (30, .iload_n 3, 1, []), (31, .aload_n 0, 1, []), (32, .getfield 60, 3, []), (35, .if_icmp .ge 21, 3, [56]), (38, .aload_n 0, 1, []), (39, .getfield 39, 3, []), (42, .iload_n 3, 1, []), (43, .aload_n 0, 1, []), (44, .getfield 24, 3, []), (47, .iload_n 3, 1, []), (48, .iaload, 1, []), (49, .iastore, 1, []), (50, .iinc 3 1, 3, []), (53, .goto (-23), 3, [30]), (56, .aload_n 0, 1, []), (57, .getfield 7, 3, []), (60, .iload_n 1, 1, []), (61, .iload_n 2, 1, []), (62, .iastore, 1, []), (63, .aload_n 0, 1, []), (64, .invokevirtual 113, 3, []), (67, .iconst 0, 1, []), (68, .istore_n 3, 1, []), (69, .iconst 0, 1, []), (70, .istore 4, 2, []), (72, .iload 4, 2, []), (74, .aload_n 0, 1, []), (75, .getfield 60, 3, []), (78, .if_icmp .ge 40, 3, [118]), (81, .iload_n 3, 1, []), (82, .iload 4, 2, []), (84, .iload_n 1, 1, []), (85, .if_icmp .eq 24, 3, [109]), (88, .aload_n 0, 1, []), (89, .getfield 24, 3, []), (92, .iload 4, 2, []), (94, .iaload, 1, []), (95, .aload_n 0, 1, []), (96, .getfield 39, 3, []), (99, .iload 4, 2, []), (101, .iaload, 1, []), (102, .if_icmp .eq 7, 3, [109]), (105, .iconst 1, 1, []), (106, .goto 4, 3, [110]), (109, .iconst 0, 1, []), (110, .iadd, 1, []), (111, .istore_n 3, 1, []), (112, .iinc 4 1, 3, []), (115, .goto (-43), 3, [72]), (118, .iload_n 3, 1, []), (119, .ireturn, 1, [])]
theorem tbX9_setTile_ok : tbOK cX9_setTile tbX9_setTile = true := by decide +kernel
def tbX9_fill : TB := [(0, .aload_n 0, 1, []), (1, .iload_n 1, 1, []), (2, .invokevirtual 99, 3, []), (5, .ifCond .eq 5, 3, [10]), (8, .iconst (-1), 1, []), (9, .ireturn, 1, []), (10, .iload_n 2, 1, []), (11, .invokestatic 136, 3, []), (14, .ifCond .ne 6, 3, [20]), (17, .bipush (-2), 2, []), (19, .ireturn, 1, []), (20, .aload_n 0, 1, []), (21, .invokevirtual 106, 3, []), (24, .aload_n 0, 1, []), (25, .invokevirtual 113, 3, []), (28, .aload_n 0, 1, []), (29, .getfield 24, 3, []), (32, .iload_n 1, 1, []), (33, .iaload, 1, []), (34, .istore_n 3, 1, []), (35, .iconst 0, 1, []), (36, .istore 4, 2, []), (38, .iload 4, 2, []), (40, .aload_n 0, 1, []), (41, .getfield 60, 3, []), (44, .if_icmp .ge 38, 3, [82]), (47, .aload_n 0, 1, []), (48, .getfield 7, 3, []), (51, .iload 4, 2, []), (53, .aload_n 0, 1, []), (54, .getfield 24, 3, []), (57, .iload 4, 2, []), (59, .iaload, 1, []), (60, .iload_n 3, 1, []), (61, .if_icmp .ne 7, 3, [68]), (64, .iload_n 2, 1, []), (65, .goto 10, 3, [75]), (68, .aload_n 0, 1, []), (69, .getfield 7, 3, []), (72, .iload 4, 2, []), (74, .iaload, 1, []), (75, .iastore, 1, []), (76, .iinc 4 1, 3, []), (79, .goto (-41), 3, [38]), (82, .aload_n 0, 1, []), (83, .invokevirtual 113, 3, []), (86, .aload_n 0, 1, []), (87, .aload_n 0, 1, []), (88, .getfield 24, 3, []), (91, .iload_n 1, 1, []), (92, .iaload, 1, []), (93, .invokevirtual 120, 3, []), (96, .ireturn, 1, [])]
theorem tbX9_fill_ok : tbOK cX9_fill tbX9_fill = true := by decide +kernel
def tbX9_setWeight : TB := [(0, .iload_n 1, 1, []), (1, .invokestatic 136, 3, []), (4, .ifCond .eq 13, 3, [17]), (7, .iload_n 2, 1, []), (8, .iconst 0, 1, []), (9, .bipush 9, 2, []), (11, .invokestatic 49, 3, []), (14, .ifCond .ne 6, 3, [20]), (17, .bipush (-2), 2, []), (19, .ireturn, 1, []), (20, .aload_n 0, 1, []), (21, .getfield 13, 3, []), (24, .iload_n 1, 1, []), (25, .iaload, 1, []), (26, .istore_n 3, 1, []), (27, .aload_n 0, 1, []), (28, .getfield 13, 3, []), (31, .iload_n 1, 1, []), (32, .iload_n 2, 1, []), (33, .iastore, 1, []), (34, .iload_n 3, 1, []), (35, .ireturn, 1, [])]
theorem tbX9_setWeight_ok : tbOK cX9_setWeight tbX9_setWeight = true := by decide +kernel
def tbX9_stepLength : TB := [(0, .iload_n 2, 1, []), (1, .ifCond .ge 6, 3, [7]), (4, .ldc 139, 2, []), (6, .ireturn, 1, []), (7, .aload_n 0, 1, []), (8, .getfield 13, 3, []), (11, .aload_n 0, 1, []), (12, .getfield 7, 3, []), (15, .iload_n 1, 1, []), (16, .iaload, 1, []), (17, .iaload, 1, []), (18, .istore_n 3, 1, []), (19, .aload_n 0, 1, []), (20, .getfield 13, 3, []), (23, .aload_n 0, 1, []), (24, .getfield 7, 3, []), (27, .iload_n 2, 1, []), (28, .iaload, 1, []), (29, .iaload, 1, []), (30, .istore 4, 2, []), (32, .iload_n 3, 1, []), (33, .ifCond .eq 8, 3, [41]), (36, .iload 4, 2, []), (38, .ifCond .ne 8, 3, [46]), (41, .ldc 139, 2, []), (43, .goto 7, 3, [50]), (46, .iload_n 3, 1, []), (47, .iload 4, 2, []), (49, .iadd, 1, []), (50, .ireturn, 1, [])]
theorem tbX9_stepLength_ok : tbOK cX9_stepLength tbX9_stepLength = true := by decide +kernel
def tbX9_layDistances : TB := [(0, .iconst 0, 1, []), (1, .istore_n 2, 1, []), (2, .iload_n 2, 1, []), (3, .aload_n 0, 1, []), (4, .getfield 60, 3, []), (7, .if_icmp .ge 33, 3, [40]), (10, .aload_n 0, 1, []), (11, .getfield 42, 3, []), (14, .iload_n 2, 1, []), (15, .iload_n 2, 1, []), (16, .iload_n 1, 1, []), (17, .if_icmp .ne 7, 3, [24]), (20, .iconst 0, 1, []), (21, .goto 5, 3, [26]), (24, .ldc 139, 2, []), (26, .iastore, 1, []), (27, .aload_n 0, 1, []), (28, .getfield 20, 3, []), (31, .iload_n 2, 1, []), (32, .iconst 0, 1, []), (33, .bastore, 1, []), (34, .iinc 2 1, 3, []), (37, .goto (-35), 3, [2]), (40, .iconst 0, 1, []), (41, .istore_n 2, 1, []), (42, .iload_n 2, 1, []), (43, .aload_n 0, 1, []), (44, .getfield 60, 3, []), (47, .if_icmp .ge 141, 3, [188]), (50, .iconst (-1), 1, []), (51, .istore_n 3, 1, []), (52, .iconst 0, 1, []), (53, .istore 4, 2, []), (55, .iload 4, 2, []), (57, .aload_n 0, 1, []), (58, .getfield 60, 3, []), (61, .if_icmp .ge 46, 3, [107]), (64, .aload_n 0, 1, []), (65, .getfield 20, 3, []), (68, .iload 4, 2, []), (70, .baload, 1, []), (71, .ifCond .ne 28, 3, [99]), (74, .iload_n 3, 1, []), (75, .ifCond .lt 19, 3, [94]), (78, .aload_n 0, 1, []), (79, .getfield 42, 3, []), (82, .iload 4, 2, []), (84, .iaload, 1, []), (85, .aload_n 0, 1, []), (86, .getfield 42, 3, []), (89, .iload_n 3, 1, []), (90, .iaload, 1, []), (91, .if_icmp .ge 8, 3, [99]), (94, .iload 4, 2, []), (96, .goto 4, 3, [100]), (99, .iload_n 3, 1, []), (100, .istore_n 3, 1, []), (101, .iinc 4 1, 3, []), (104, .goto (-49), 3, [55]), (107, .aload_n 0, 1, []), (108, .getfield 20, 3, []), (111, .iload_n 3, 1, []), (112, .iconst 1, 1, []), (113, .bastore, 1, []), (114, .iconst 0, 1, []), (115, .istore 4, 2, []), (117, .iload 4, 2, []), (119, .iconst 4, 1, []), (120, .if_icmp .ge 62, 3, [182]), (123, .aload_n 0, 1, []), (124, .iload_n 3, 1, []), (125, .iload 4, 2, []), (127, .invokevirtual 89, 3, []), (130, .istore 5, 2, []), (132, .aload_n 0, 1, []), (133, .getfield 42, 3, []), (136, .iload_n 3, 1, []), (137, .iaload, 1, []), (138, .aload_n 0, 1, []), (139, .iload_n 3, 1, []), (140, .iload 5, 2, []), (142, .invokevirtual 140, 3, []), (145, .iadd, 1, []), (146, .istore 6, 2, []), (148, .iload 6, 2, []), (150, .ldc 139, 2, []), (152, .if_icmp .ge 24, 3, [176]), (155, .iload 6, 2, []), (157, .aload_n 0, 1, []), (158, .getfield 42, 3, []), (161, .iload 5, 2, []), (163, .iaload, 1, []), (164, .if_icmp .ge 12, 3, [176]), (167, .aload_n 0, 1, []), (168, .getfield 42, 3, []), (171, .iload 5, 2, []), (173, .iload 6, 2, []), (175, .iastore, 1, []), (176, .iinc 4 1, 3, []), (179, .goto (-62), 3, [117]), (182, .iinc 2 1, 3, []), (185, .goto (-143), 3, [42]), (188, .return_, 1, [])]
theorem tbX9_layDistances_ok : tbOK cX9_layDistances tbX9_layDistances = true := by decide +kernel
def tbX9_distance : TB := [(0, .aload_n 0, 1, []), (1, .iload_n 1, 1, []), (2, .invokevirtual 99, 3, []), (5, .ifCond .ne 11, 3, [16]), (8, .aload_n 0, 1, []), (9, .iload_n 2, 1, []), (10, .invokevirtual 99, 3, []), (13, .ifCond .eq 5, 3, [18]), (16, .iconst (-1), 1, []), (17, .ireturn, 1, []), (18, .aload_n 0, 1, []), (19, .iload_n 1, 1, []), (20, .invokevirtual 143, 3, []), (23, .aload_n 0, 1, []), (24, .getfield 42, 3, []), (27, .iload_n 2, 1, []), (28, .iaload, 1, []), (29, .ldc 139, 2, []), (31, .if_icmp .ge 12, 3, [43]), (34, .aload_n 0, 1, []), (35, .getfield 42, 3, []), (38, .iload_n 2, 1, []), (39, .iaload, 1, []), (40, .goto 5, 3, [45]), (43, .bipush (-4), 2, []), (45, .ireturn, 1, [])]
theorem tbX9_distance_ok : tbOK cX9_distance tbX9_distance = true := by decide +kernel
def tbX9_onward : TB := [(0, .iconst 0, 1, []), (1, .istore_n 2, 1, []), (2, .iload_n 2, 1, []), (3, .iconst 4, 1, []), (4, .if_icmp .ge 51, 3, [55]), (7, .aload_n 0, 1, []), (8, .iload_n 1, 1, []), (9, .iload_n 2, 1, []), (10, .invokevirtual 89, 3, []), (13, .istore_n 3, 1, []), (14, .aload_n 0, 1, []), (15, .iload_n 1, 1, []), (16, .iload_n 3, 1, []), (17, .invokevirtual 140, 3, []), (20, .ldc 139, 2, []), (22, .if_icmp .ge 27, 3, [49]), (25, .aload_n 0, 1, []), (26, .getfield 42, 3, []), (29, .iload_n 3, 1, []), (30, .iaload, 1, []), (31, .aload_n 0, 1, []), (32, .iload_n 1, 1, []), (33, .iload_n 3, 1, []), (34, .invokevirtual 140, 3, []), (37, .iadd, 1, []), (38, .aload_n 0, 1, []), (39, .getfield 42, 3, []), (42, .iload_n 1, 1, []), (43, .iaload, 1, []), (44, .if_icmp .ne 5, 3, [49]), (47, .iload_n 3, 1, []), (48, .ireturn, 1, []), (49, .iinc 2 1, 3, []), (52, .goto (-50), 3, [2]), (55, .iload_n 1, 1, []), (56, .ireturn, 1, [])]
theorem tbX9_onward_ok : tbOK cX9_onward tbX9_onward = true := by decide +kernel
def tbX9_route : TB := [(0, .aload_n 0, 1, []), (1, .iload_n 1, 1, []), (2, .invokevirtual 99, 3, []), (5, .ifCond .ne 11, 3, [16]), (8, .aload_n 0, 1, []), (9, .iload_n 2, 1, []), (10, .invokevirtual 99, 3, []), (13, .ifCond .eq 5, 3, [18]), (16, .iconst (-1), 1, []), (17, .ireturn, 1, []), (18, .iload_n 3, 1, []), (19, .iconst (-1), 1, []), (20, .if_icmp .ge 6, 3, [26]), (23, .bipush (-2), 2, []), (25, .ireturn, 1, []), (26, .aload_n 0, 1, []), (27, .iload_n 2, 1, []), (28, .invokevirtual 143, 3, []), (31, .aload_n 0, 1, []), (32, .getfield 42, 3, []), (35, .iload_n 1, 1, []), (36, .iaload, 1, []), (37, .ldc 139, 2, []), (39, .if_icmp .lt 6, 3, [45]), (42, .bipush (-4), 2, []), (44, .ireturn, 1, []), (45, .iload_n 1, 1, []), (46, .istore 4, 2, []), (48, .iconst 0, 1, []), (49, .istore 5, 2, []), (51, .iload 4, 2, []), (53, .iload_n 2, 1, []), (54, .if_icmp .eq 23, 3, [77]), (57, .iload 5, 2, []), (59, .iload_n 3, 1, []), (60, .if_icmp .eq 17, 3, [77]), (63, .aload_n 0, 1, []), (64, .iload 4, 2, []), (66, .invokevirtual 146, 3, []), (69, .istore 4, 2, []), (71, .iinc 5 1, 3, []), (74, .goto (-23), 3, [51]), (77, .iload_n 3, 1, []), (78, .ifCond .ge 8, 3, [86]), (81, .iload 5, 2, []), (83, .goto 16, 3, [99]), (86, .iload 5, 2, []), (88, .iload_n 3, 1, []), (89, .if_icmp .ne 8, 3, [97]), (92, .iload 4, 2, []), (94, .goto 5, 3, [99]), (97, .bipush (-5), 2, []), (99, .ireturn, 1, [])]
theorem tbX9_route_ok : tbOK cX9_route tbX9_route = true := by decide +kernel
def tbX9_farthest : TB := [(0, .aload_n 0, 1, []), (1, .iload_n 1, 1, []), (2, .invokevirtual 99, 3, []), (5, .ifCond .eq 5, 3, [10]), (8, .iconst (-1), 1, []), (9, .ireturn, 1, []), (10, .aload_n 0, 1, []), (11, .iload_n 1, 1, []), (12, .invokevirtual 143, 3, []), (15, .iload_n 1, 1, []), (16, .istore_n 2, 1, []), (17, .iconst 0, 1, []), (18, .istore_n 3, 1, []), (19, .iload_n 3, 1, []), (20, .aload_n 0, 1, []), (21, .getfield 60, 3, []), (24, .if_icmp .ge 73, 3, [97]), (27, .aload_n 0, 1, []), (28, .getfield 42, 3, []), (31, .iload_n 3, 1, []), (32, .iaload, 1, []), (33, .ldc 139, 2, []), (35, .if_icmp .ge 42, 3, [77]), (38, .aload_n 0, 1, []), (39, .getfield 42, 3, []), (42, .iload_n 3, 1, []), (43, .iaload, 1, []), (44, .aload_n 0, 1, []), (45, .getfield 42, 3, []), (48, .iload_n 2, 1, []), (49, .iaload, 1, []), (50, .if_icmp .gt 23, 3, [73]), (53, .aload_n 0, 1, []), (54, .getfield 42, 3, []), (57, .iload_n 3, 1, []), (58, .iaload, 1, []), (59, .aload_n 0, 1, []), (60, .getfield 42, 3, []), (63, .iload_n 2, 1, []), (64, .iaload, 1, []), (65, .if_icmp .ne 12, 3, [77]), (68, .iload_n 3, 1, []), (69, .iload_n 2, 1, []), (70, .if_icmp .ge 7, 3, [77]), (73, .iconst 1, 1, []), (74, .goto 4, 3, [78]), (77, .iconst 0, 1, []), (78, .istore 4, 2, []), (80, .iload 4, 2, []), (82, .ifCond .eq 7, 3, [89]), (85, .iload_n 3, 1, []), (86, .goto 4, 3, [90]), (89, .iload_n 2, 1, []), (90, .istore_n 2, 1, []), (91, .iinc 3 1, 3, []), (94, .goto (-75), 3, [19]), (97, .iload_n 2, 1, []), (98, .ireturn, 1, [])]
theorem tbX9_farthest_ok : tbOK cX9_farthest tbX9_farthest = true := by decide +kernel
def tbX9_within : TB := [(0, .aload_n 0, 1, []), (1, .iload_n 1, 1, []), (2, .invokevirtual 99, 3, []), (5, .ifCond .eq 5, 3, [10]), (8, .iconst (-1), 1, []), (9, .ireturn, 1, []), (10, .iload_n 2, 1, []), (11, .ifCond .ge 6, 3, [17]), (14, .bipush (-2), 2, []), (16, .ireturn, 1, []), (17, .aload_n 0, 1, []), (18, .iload_n 1, 1, []), (19, .invokevirtual 143, 3, []), (22, .iconst 0, 1, []), (23, .istore_n 3, 1, []), (24, .iconst 0, 1, []), (25, .istore 4, 2, []), (27, .iload 4, 2, []), (29, .aload_n 0, 1, []), (30, .getfield 60, 3, []), (33, .if_icmp .ge 40, 3, [73]), (36, .iload_n 3, 1, []), (37, .aload_n 0, 1, []), (38, .getfield 42, 3, []), (41, .iload 4, 2, []), (43, .iaload, 1, []), (44, .ldc 139, 2, []), (46, .if_icmp .ge 18, 3, [64]), (49, .aload_n 0, 1, []), (50, .getfield 42, 3, []), (53, .iload 4, 2, []), (55, .iaload, 1, []), (56, .iload_n 2, 1, []), (57, .if_icmp .gt 7, 3, [64]), (60, .iconst 1, 1, []), (61, .goto 4, 3, [65]), (64, .iconst 0, 1, []), (65, .iadd, 1, []), (66, .istore_n 3, 1, []), (67, .iinc 4 1, 3, []), (70, .goto (-43), 3, [27]), (73, .iload_n 3, 1, []), (74, .ireturn, 1, [])]
theorem tbX9_within_ok : tbOK cX9_within tbX9_within = true := by decide +kernel
def tbX9_nearest : TB := [(0, .aload_n 0, 1, []), (1, .iload_n 1, 1, []), (2, .invokevirtual 99, 3, []), (5, .ifCond .eq 5, 3, [10]), (8, .iconst (-1), 1, []), (9, .ireturn, 1, []), (10, .iload_n 2, 1, []), (11, .invokestatic 136, 3, []), (14, .ifCond .ne 6, 3, [20]), (17, .bipush (-2), 2, []), (19, .ireturn, 1, []), (20, .aload_n 0, 1, []), (21, .iload_n 1, 1, []), (22, .invokevirtual 143, 3, []), (25, .bipush (-5), 2, []), (27, .istore_n 3, 1, []), (28, .iconst 0, 1, []), (29, .istore 4, 2, []), (31, .iload 4, 2, []), (33, .aload_n 0, 1, []), (34, .getfield 60, 3, []), (37, .if_icmp .ge 71, 3, [108]), (40, .aload_n 0, 1, []), (41, .getfield 7, 3, []), (44, .iload 4, 2, []), (46, .iaload, 1, []), (47, .iload_n 2, 1, []), (48, .if_icmp .ne 19, 3, [67]), (51, .aload_n 0, 1, []), (52, .getfield 42, 3, []), (55, .iload 4, 2, []), (57, .iaload, 1, []), (58, .ldc 139, 2, []), (60, .if_icmp .ge 7, 3, [67]), (63, .iconst 1, 1, []), (64, .goto 4, 3, [68]), (67, .iconst 0, 1, []), (68, .istore 5, 2, []), (70, .iload 5, 2, []), (72, .ifCond .eq 28, 3, [100]), (75, .iload_n 3, 1, []), (76, .ifCond .lt 19, 3, [95]), (79, .aload_n 0, 1, []), (80, .getfield 42, 3, []), (83, .iload 4, 2, []), (85, .iaload, 1, []), (86, .aload_n 0, 1, []), (87, .getfield 42, 3, []), (90, .iload_n 3, 1, []), (91, .iaload, 1, []), (92, .if_icmp .ge 8, 3, [100]), (95, .iload 4, 2, []), (97, .goto 4, 3, [101]), (100, .iload_n 3, 1, []), (101, .istore_n 3, 1, []), (102, .iinc 4 1, 3, []), (105, .goto (-74), 3, [31]), (108, .iload_n 3, 1, []), (109, .ireturn, 1, [])]
theorem tbX9_nearest_ok : tbOK cX9_nearest tbX9_nearest = true := by decide +kernel
theorem dX0_init_0 : decode cX0_init 0 = .ok (.aload_n 0, 1) := by decide +kernel
theorem dX0_init_1 : decode cX0_init 1 = .ok (.invokespecial 3, 3) := by decide +kernel
theorem dX0_init_4 : decode cX0_init 4 = .ok (.aload_n 0, 1) := by decide +kernel
theorem dX0_init_5 : decode cX0_init 5 = .ok (.bipush 12, 2) := by decide +kernel
theorem dX0_init_7 : decode cX0_init 7 = .ok (.sipush 144, 3) := by decide +kernel
theorem dX0_init_10 : decode cX0_init 10 = .ok (.multianewarray 9 2, 4) := by decide +kernel
theorem dX0_init_14 : decode cX0_init 14 = .ok (.putfield 11, 3) := by decide +kernel
theorem dX0_init_17 : decode cX0_init 17 = .ok (.return_, 1) := by decide +kernel
theorem dX1_init_0 : decode cX1_init 0 = .ok (.aload_n 0, 1) := by decide +kernel
theorem dX1_init_1 : decode cX1_init 1 = .ok (.invokespecial 3, 3) := by decide +kernel
theorem dX1_init_4 : decode cX1_init 4 = .ok (.aload_n 0, 1) := by decide +kernel
theorem dX1_init_5 : decode cX1_init 5 = .ok (.sipush 144, 3) := by decide +kernel
theorem dX1_init_8 : decode cX1_init 8 = .ok (.newarray .int, 2) := by decide +kernel
theorem dX1_init_10 : decode cX1_init 10 = .ok (.putfield 9, 3) := by decide +kernel
theorem dX1_init_13 : decode cX1_init 13 = .ok (.aload_n 0, 1) := by decide +kernel
theorem dX1_init_14 : decode cX1_init 14 = .ok (.sipush 144, 3) := by decide +kernel
theorem dX1_init_17 : decode cX1_init 17 = .ok (.newarray .int, 2) := by decide +kernel
theorem dX1_init_19 : decode cX1_init 19 = .ok (.putfield 15, 3) := by decide +kernel
theorem dX1_init_22 : decode cX1_init 22 = .ok (.aload_n 0, 1) := by decide +kernel
theorem dX1_init_23 : decode cX1_init 23 = .ok (.sipush 144, 3) := by decide +kernel
theorem dX1_init_26 : decode cX1_init 26 = .ok (.newarray .int, 2) := by decide +kernel
theorem dX1_init_28 : decode cX1_init 28 = .ok (.putfield 18, 3) := by decide +kernel
theorem dX1_init_31 : decode cX1_init 31 = .ok (.aload_n 0, 1) := by decide +kernel
theorem dX1_init_32 : decode cX1_init 32 = .ok (.sipush 144, 3) := by decide +kernel
theorem dX1_init_35 : decode cX1_init 35 = .ok (.newarray .int, 2) := by decide +kernel
theorem dX1_init_37 : decode cX1_init 37 = .ok (.putfield 21, 3) := by decide +kernel
theorem dX1_init_40 : decode cX1_init 40 = .ok (.aload_n 0, 1) := by decide +kernel
theorem dX1_init_41 : decode cX1_init 41 = .ok (.sipush 144, 3) := by decide +kernel
theorem dX1_init_44 : decode cX1_init 44 = .ok (.newarray .boolean, 2) := by decide +kernel
theorem dX1_init_46 : decode cX1_init 46 = .ok (.putfield 24, 3) := by decide +kernel
theorem dX1_init_49 : decode cX1_init 49 = .ok (.aload_n 0, 1) := by decide +kernel
theorem dX1_init_50 : decode cX1_init 50 = .ok (.new 28, 3) := by decide +kernel
theorem dX1_init_53 : decode cX1_init 53 = .ok (.dup, 1) := by decide +kernel
theorem dX1_init_54 : decode cX1_init 54 = .ok (.invokespecial 30, 3) := by decide +kernel
theorem dX1_init_57 : decode cX1_init 57 = .ok (.putfield 31, 3) := by decide +kernel
theorem dX1_init_60 : decode cX1_init 60 = .ok (.aload_n 0, 1) := by decide +kernel
theorem dX1_init_61 : decode cX1_init 61 = .ok (.aload_n 1, 1) := by decide +kernel
theorem dX1_init_62 : decode cX1_init 62 = .ok (.putfield 35, 3) := by decide +kernel
theorem dX1_init_65 : decode cX1_init 65 = .ok (.aload_n 0, 1) := by decide +kernel
theorem dX1_init_66 : decode cX1_init 66 = .ok (.aload_n 2, 1) := by decide +kernel
theorem dX1_init_67 : decode cX1_init 67 = .ok (.putfield 39, 3) := by decide +kernel
theorem dX1_init_70 : decode cX1_init 70 = .ok (.return_, 1) := by decide +kernel
theorem dX2_init_0 : decode cX2_init 0 = .ok (.aload_n 0, 1) := by decide +kernel
theorem dX2_init_1 : decode cX2_init 1 = .ok (.invokespecial 3, 3) := by decide +kernel
theorem dX2_init_4 : decode cX2_init 4 = .ok (.return_, 1) := by decide +kernel
theorem dX3_init_0 : decode cX3_init 0 = .ok (.aload_n 0, 1) := by decide +kernel
theorem dX3_init_1 : decode cX3_init 1 = .ok (.invokespecial 3, 3) := by decide +kernel
theorem dX3_init_4 : decode cX3_init 4 = .ok (.aload_n 0, 1) := by decide +kernel
theorem dX3_init_5 : decode cX3_init 5 = .ok (.new 9, 3) := by decide +kernel
theorem dX3_init_8 : decode cX3_init 8 = .ok (.dup, 1) := by decide +kernel
theorem dX3_init_9 : decode cX3_init 9 = .ok (.invokespecial 11, 3) := by decide +kernel
theorem dX3_init_12 : decode cX3_init 12 = .ok (.putfield 12, 3) := by decide +kernel
theorem dX3_init_15 : decode cX3_init 15 = .ok (.aload_n 0, 1) := by decide +kernel
theorem dX3_init_16 : decode cX3_init 16 = .ok (.new 9, 3) := by decide +kernel
theorem dX3_init_19 : decode cX3_init 19 = .ok (.dup, 1) := by decide +kernel
theorem dX3_init_20 : decode cX3_init 20 = .ok (.invokespecial 11, 3) := by decide +kernel
theorem dX3_init_23 : decode cX3_init 23 = .ok (.putfield 18, 3) := by decide +kernel
theorem dX3_init_26 : decode cX3_init 26 = .ok (.aload_n 0, 1) := by decide +kernel
theorem dX3_init_27 : decode cX3_init 27 = .ok (.sipush 576, 3) := by decide +kernel
theorem dX3_init_30 : decode cX3_init 30 = .ok (.newarray .int, 2) := by decide +kernel
theorem dX3_init_32 : decode cX3_init 32 = .ok (.putfield 21, 3) := by decide +kernel
theorem dX3_init_35 : decode cX3_init 35 = .ok (.aload_n 0, 1) := by decide +kernel
theorem dX3_init_36 : decode cX3_init 36 = .ok (.sipush 576, 3) := by decide +kernel
theorem dX3_init_39 : decode cX3_init 39 = .ok (.newarray .int, 2) := by decide +kernel
theorem dX3_init_41 : decode cX3_init 41 = .ok (.putfield 25, 3) := by decide +kernel
theorem dX3_init_44 : decode cX3_init 44 = .ok (.return_, 1) := by decide +kernel
theorem dX4_init_0 : decode cX4_init 0 = .ok (.aload_n 0, 1) := by decide +kernel
theorem dX4_init_1 : decode cX4_init 1 = .ok (.invokespecial 3, 3) := by decide +kernel
theorem dX4_init_4 : decode cX4_init 4 = .ok (.aload_n 0, 1) := by decide +kernel
theorem dX4_init_5 : decode cX4_init 5 = .ok (.sipush 160, 3) := by decide +kernel
theorem dX4_init_8 : decode cX4_init 8 = .ok (.newarray .char, 2) := by decide +kernel
theorem dX4_init_10 : decode cX4_init 10 = .ok (.putfield 9, 3) := by decide +kernel
theorem dX4_init_13 : decode cX4_init 13 = .ok (.return_, 1) := by decide +kernel
theorem dX5_init_0 : decode cX5_init 0 = .ok (.aload_n 0, 1) := by decide +kernel
theorem dX5_init_1 : decode cX5_init 1 = .ok (.invokespecial 3, 3) := by decide +kernel
theorem dX5_init_4 : decode cX5_init 4 = .ok (.aload_n 0, 1) := by decide +kernel
theorem dX5_init_5 : decode cX5_init 5 = .ok (.sipush 144, 3) := by decide +kernel
theorem dX5_init_8 : decode cX5_init 8 = .ok (.newarray .int, 2) := by decide +kernel
theorem dX5_init_10 : decode cX5_init 10 = .ok (.putfield 9, 3) := by decide +kernel
theorem dX5_init_13 : decode cX5_init 13 = .ok (.return_, 1) := by decide +kernel
theorem dX6_init_0 : decode cX6_init 0 = .ok (.aload_n 0, 1) := by decide +kernel
theorem dX6_init_1 : decode cX6_init 1 = .ok (.invokespecial 3, 3) := by decide +kernel
theorem dX6_init_4 : decode cX6_init 4 = .ok (.aload_n 0, 1) := by decide +kernel
theorem dX6_init_5 : decode cX6_init 5 = .ok (.sipush 144, 3) := by decide +kernel
theorem dX6_init_8 : decode cX6_init 8 = .ok (.newarray .boolean, 2) := by decide +kernel
theorem dX6_init_10 : decode cX6_init 10 = .ok (.putfield 9, 3) := by decide +kernel
theorem dX6_init_13 : decode cX6_init 13 = .ok (.aload_n 0, 1) := by decide +kernel
theorem dX6_init_14 : decode cX6_init 14 = .ok (.aload_n 1, 1) := by decide +kernel
theorem dX6_init_15 : decode cX6_init 15 = .ok (.putfield 15, 3) := by decide +kernel
theorem dX6_init_18 : decode cX6_init 18 = .ok (.return_, 1) := by decide +kernel
theorem dX7_init_0 : decode cX7_init 0 = .ok (.aload_n 0, 1) := by decide +kernel
theorem dX7_init_1 : decode cX7_init 1 = .ok (.invokespecial 3, 3) := by decide +kernel
theorem dX7_init_4 : decode cX7_init 4 = .ok (.aload_n 0, 1) := by decide +kernel
theorem dX7_init_5 : decode cX7_init 5 = .ok (.bipush 6, 2) := by decide +kernel
theorem dX7_init_7 : decode cX7_init 7 = .ok (.newarray .int, 2) := by decide +kernel
theorem dX7_init_9 : decode cX7_init 9 = .ok (.putfield 9, 3) := by decide +kernel
theorem dX7_init_12 : decode cX7_init 12 = .ok (.aload_n 0, 1) := by decide +kernel
theorem dX7_init_13 : decode cX7_init 13 = .ok (.sipush 144, 3) := by decide +kernel
theorem dX7_init_16 : decode cX7_init 16 = .ok (.newarray .int, 2) := by decide +kernel
theorem dX7_init_18 : decode cX7_init 18 = .ok (.putfield 15, 3) := by decide +kernel
theorem dX7_init_21 : decode cX7_init 21 = .ok (.aload_n 0, 1) := by decide +kernel
theorem dX7_init_22 : decode cX7_init 22 = .ok (.new 18, 3) := by decide +kernel
theorem dX7_init_25 : decode cX7_init 25 = .ok (.dup, 1) := by decide +kernel
theorem dX7_init_26 : decode cX7_init 26 = .ok (.invokespecial 20, 3) := by decide +kernel
theorem dX7_init_29 : decode cX7_init 29 = .ok (.putfield 21, 3) := by decide +kernel
theorem dX7_init_32 : decode cX7_init 32 = .ok (.aload_n 0, 1) := by decide +kernel
theorem dX7_init_33 : decode cX7_init 33 = .ok (.aload_n 1, 1) := by decide +kernel
theorem dX7_init_34 : decode cX7_init 34 = .ok (.putfield 25, 3) := by decide +kernel
theorem dX7_init_37 : decode cX7_init 37 = .ok (.aload_n 0, 1) := by decide +kernel
theorem dX7_init_38 : decode cX7_init 38 = .ok (.aload_n 2, 1) := by decide +kernel
theorem dX7_init_39 : decode cX7_init 39 = .ok (.putfield 29, 3) := by decide +kernel
theorem dX7_init_42 : decode cX7_init 42 = .ok (.return_, 1) := by decide +kernel
theorem dX8_init_0 : decode cX8_init 0 = .ok (.aload_n 0, 1) := by decide +kernel
theorem dX8_init_1 : decode cX8_init 1 = .ok (.invokespecial 3, 3) := by decide +kernel
theorem dX8_init_4 : decode cX8_init 4 = .ok (.aload_n 0, 1) := by decide +kernel
theorem dX8_init_5 : decode cX8_init 5 = .ok (.new 9, 3) := by decide +kernel
theorem dX8_init_8 : decode cX8_init 8 = .ok (.dup, 1) := by decide +kernel
theorem dX8_init_9 : decode cX8_init 9 = .ok (.invokespecial 11, 3) := by decide +kernel
theorem dX8_init_12 : decode cX8_init 12 = .ok (.putfield 12, 3) := by decide +kernel
theorem dX8_init_15 : decode cX8_init 15 = .ok (.aload_n 0, 1) := by decide +kernel
theorem dX8_init_16 : decode cX8_init 16 = .ok (.sipush 144, 3) := by decide +kernel
theorem dX8_init_19 : decode cX8_init 19 = .ok (.newarray .int, 2) := by decide +kernel
theorem dX8_init_21 : decode cX8_init 21 = .ok (.putfield 16, 3) := by decide +kernel
theorem dX8_init_24 : decode cX8_init 24 = .ok (.aload_n 0, 1) := by decide +kernel
theorem dX8_init_25 : decode cX8_init 25 = .ok (.new 20, 3) := by decide +kernel
theorem dX8_init_28 : decode cX8_init 28 = .ok (.dup, 1) := by decide +kernel
theorem dX8_init_29 : decode cX8_init 29 = .ok (.aload_n 0, 1) := by decide +kernel
theorem dX8_init_30 : decode cX8_init 30 = .ok (.getfield 12, 3) := by decide +kernel
theorem dX8_init_33 : decode cX8_init 33 = .ok (.aload_n 0, 1) := by decide +kernel
theorem dX8_init_34 : decode cX8_init 34 = .ok (.getfield 16, 3) := by decide +kernel
theorem dX8_init_37 : decode cX8_init 37 = .ok (.invokespecial 22, 3) := by decide +kernel
theorem dX8_init_40 : decode cX8_init 40 = .ok (.putfield 25, 3) := by decide +kernel
theorem dX8_init_43 : decode cX8_init 43 = .ok (.aload_n 0, 1) := by decide +kernel
theorem dX8_init_44 : decode cX8_init 44 = .ok (.new 29, 3) := by decide +kernel
theorem dX8_init_47 : decode cX8_init 47 = .ok (.dup, 1) := by decide +kernel
theorem dX8_init_48 : decode cX8_init 48 = .ok (.invokespecial 31, 3) := by decide +kernel
theorem dX8_init_51 : decode cX8_init 51 = .ok (.putfield 32, 3) := by decide +kernel
theorem dX8_init_54 : decode cX8_init 54 = .ok (.aload_n 0, 1) := by decide +kernel
theorem dX8_init_55 : decode cX8_init 55 = .ok (.new 36, 3) := by decide +kernel
theorem dX8_init_58 : decode cX8_init 58 = .ok (.dup, 1) := by decide +kernel
theorem dX8_init_59 : decode cX8_init 59 = .ok (.aload_n 0, 1) := by decide +kernel
theorem dX8_init_60 : decode cX8_init 60 = .ok (.getfield 12, 3) := by decide +kernel
theorem dX8_init_63 : decode cX8_init 63 = .ok (.invokespecial 38, 3) := by decide +kernel
theorem dX8_init_66 : decode cX8_init 66 = .ok (.putfield 41, 3) := by decide +kernel
theorem dX8_init_69 : decode cX8_init 69 = .ok (.aload_n 0, 1) := by decide +kernel
theorem dX8_init_70 : decode cX8_init 70 = .ok (.new 45, 3) := by decide +kernel
theorem dX8_init_73 : decode cX8_init 73 = .ok (.dup, 1) := by decide +kernel
theorem dX8_init_74 : decode cX8_init 74 = .ok (.invokespecial 47, 3) := by decide +kernel
theorem dX8_init_77 : decode cX8_init 77 = .ok (.putfield 48, 3) := by decide +kernel
theorem dX8_init_80 : decode cX8_init 80 = .ok (.aload_n 0, 1) := by decide +kernel
theorem dX8_init_81 : decode cX8_init 81 = .ok (.new 52, 3) := by decide +kernel
theorem dX8_init_84 : decode cX8_init 84 = .ok (.dup, 1) := by decide +kernel
theorem dX8_init_85 : decode cX8_init 85 = .ok (.aload_n 0, 1) := by decide +kernel
theorem dX8_init_86 : decode cX8_init 86 = .ok (.getfield 12, 3) := by decide +kernel
theorem dX8_init_89 : decode cX8_init 89 = .ok (.aload_n 0, 1) := by decide +kernel
theorem dX8_init_90 : decode cX8_init 90 = .ok (.getfield 16, 3) := by decide +kernel
theorem dX8_init_93 : decode cX8_init 93 = .ok (.invokespecial 54, 3) := by decide +kernel
theorem dX8_init_96 : decode cX8_init 96 = .ok (.putfield 55, 3) := by decide +kernel
theorem dX8_init_99 : decode cX8_init 99 = .ok (.aload_n 0, 1) := by decide +kernel
theorem dX8_init_100 : decode cX8_init 100 = .ok (.new 52, 3) := by decide +kernel
theorem dX8_init_103 : decode cX8_init 103 = .ok (.dup, 1) := by decide +kernel
theorem dX8_init_104 : decode cX8_init 104 = .ok (.aload_n 0, 1) := by decide +kernel
theorem dX8_init_105 : decode cX8_init 105 = .ok (.getfield 12, 3) := by decide +kernel
theorem dX8_init_108 : decode cX8_init 108 = .ok (.aload_n 0, 1) := by decide +kernel
theorem dX8_init_109 : decode cX8_init 109 = .ok (.getfield 16, 3) := by decide +kernel
theorem dX8_init_112 : decode cX8_init 112 = .ok (.invokespecial 54, 3) := by decide +kernel
theorem dX8_init_115 : decode cX8_init 115 = .ok (.putfield 59, 3) := by decide +kernel
theorem dX8_init_118 : decode cX8_init 118 = .ok (.aload_n 0, 1) := by decide +kernel
theorem dX8_init_119 : decode cX8_init 119 = .ok (.bipush 6, 2) := by decide +kernel
theorem dX8_init_121 : decode cX8_init 121 = .ok (.iconst 5, 1) := by decide +kernel
theorem dX8_init_122 : decode cX8_init 122 = .ok (.invokevirtual 62, 3) := by decide +kernel
theorem dX8_init_125 : decode cX8_init 125 = .ok (.return_, 1) := by decide +kernel
theorem dX9_init_0 : decode cX9_init 0 = .ok (.aload_n 0, 1) := by decide +kernel
theorem dX9_init_1 : decode cX9_init 1 = .ok (.invokespecial 1, 3) := by decide +kernel
theorem dX9_init_4 : decode cX9_init 4 = .ok (.aload_n 0, 1) := by decide +kernel
theorem dX9_init_5 : decode cX9_init 5 = .ok (.sipush 144, 3) := by decide +kernel
theorem dX9_init_8 : decode cX9_init 8 = .ok (.newarray .int, 2) := by decide +kernel
theorem dX9_init_10 : decode cX9_init 10 = .ok (.putfield 7, 3) := by decide +kernel
theorem dX9_init_13 : decode cX9_init 13 = .ok (.aload_n 0, 1) := by decide +kernel
theorem dX9_init_14 : decode cX9_init 14 = .ok (.bipush 6, 2) := by decide +kernel
theorem dX9_init_16 : decode cX9_init 16 = .ok (.newarray .int, 2) := by decide +kernel
theorem dX9_init_18 : decode cX9_init 18 = .ok (.putfield 13, 3) := by decide +kernel
theorem dX9_init_21 : decode cX9_init 21 = .ok (.aload_n 0, 1) := by decide +kernel
theorem dX9_init_22 : decode cX9_init 22 = .ok (.sipush 160, 3) := by decide +kernel
theorem dX9_init_25 : decode cX9_init 25 = .ok (.newarray .char, 2) := by decide +kernel
theorem dX9_init_27 : decode cX9_init 27 = .ok (.putfield 16, 3) := by decide +kernel
theorem dX9_init_30 : decode cX9_init 30 = .ok (.aload_n 0, 1) := by decide +kernel
theorem dX9_init_31 : decode cX9_init 31 = .ok (.sipush 144, 3) := by decide +kernel
theorem dX9_init_34 : decode cX9_init 34 = .ok (.newarray .boolean, 2) := by decide +kernel
theorem dX9_init_36 : decode cX9_init 36 = .ok (.putfield 20, 3) := by decide +kernel
theorem dX9_init_39 : decode cX9_init 39 = .ok (.aload_n 0, 1) := by decide +kernel
theorem dX9_init_40 : decode cX9_init 40 = .ok (.sipush 144, 3) := by decide +kernel
theorem dX9_init_43 : decode cX9_init 43 = .ok (.newarray .int, 2) := by decide +kernel
theorem dX9_init_45 : decode cX9_init 45 = .ok (.putfield 24, 3) := by decide +kernel
theorem dX9_init_48 : decode cX9_init 48 = .ok (.aload_n 0, 1) := by decide +kernel
theorem dX9_init_49 : decode cX9_init 49 = .ok (.sipush 144, 3) := by decide +kernel
theorem dX9_init_52 : decode cX9_init 52 = .ok (.newarray .int, 2) := by decide +kernel
theorem dX9_init_54 : decode cX9_init 54 = .ok (.putfield 27, 3) := by decide +kernel
theorem dX9_init_57 : decode cX9_init 57 = .ok (.aload_n 0, 1) := by decide +kernel
theorem dX9_init_58 : decode cX9_init 58 = .ok (.sipush 144, 3) := by decide +kernel
theorem dX9_init_61 : decode cX9_init 61 = .ok (.newarray .int, 2) := by decide +kernel
theorem dX9_init_63 : decode cX9_init 63 = .ok (.putfield 30, 3) := by decide +kernel
theorem dX9_init_66 : decode cX9_init 66 = .ok (.aload_n 0, 1) := by decide +kernel
theorem dX9_init_67 : decode cX9_init 67 = .ok (.sipush 144, 3) := by decide +kernel
theorem dX9_init_70 : decode cX9_init 70 = .ok (.newarray .int, 2) := by decide +kernel
theorem dX9_init_72 : decode cX9_init 72 = .ok (.putfield 33, 3) := by decide +kernel
theorem dX9_init_75 : decode cX9_init 75 = .ok (.aload_n 0, 1) := by decide +kernel
theorem dX9_init_76 : decode cX9_init 76 = .ok (.sipush 1728, 3) := by decide +kernel
theorem dX9_init_79 : decode cX9_init 79 = .ok (.newarray .int, 2) := by decide +kernel
theorem dX9_init_81 : decode cX9_init 81 = .ok (.putfield 36, 3) := by decide +kernel
theorem dX9_init_84 : decode cX9_init 84 = .ok (.aload_n 0, 1) := by decide +kernel
theorem dX9_init_85 : decode cX9_init 85 = .ok (.sipush 144, 3) := by decide +kernel
theorem dX9_init_88 : decode cX9_init 88 = .ok (.newarray .int, 2) := by decide +kernel
theorem dX9_init_90 : decode cX9_init 90 = .ok (.putfield 39, 3) := by decide +kernel
theorem dX9_init_93 : decode cX9_init 93 = .ok (.aload_n 0, 1) := by decide +kernel
theorem dX9_init_94 : decode cX9_init 94 = .ok (.sipush 144, 3) := by decide +kernel
theorem dX9_init_97 : decode cX9_init 97 = .ok (.newarray .int, 2) := by decide +kernel
theorem dX9_init_99 : decode cX9_init 99 = .ok (.putfield 42, 3) := by decide +kernel
theorem dX9_init_102 : decode cX9_init 102 = .ok (.aload_n 0, 1) := by decide +kernel
theorem dX9_init_103 : decode cX9_init 103 = .ok (.bipush 6, 2) := by decide +kernel
theorem dX9_init_105 : decode cX9_init 105 = .ok (.iconst 5, 1) := by decide +kernel
theorem dX9_init_106 : decode cX9_init 106 = .ok (.invokevirtual 45, 3) := by decide +kernel
theorem dX9_init_109 : decode cX9_init 109 = .ok (.return_, 1) := by decide +kernel
theorem dL_law_0 : decode cL_law 0 = .ok (.new 7, 3) := by decide +kernel
theorem dL_law_3 : decode cL_law 3 = .ok (.dup, 1) := by decide +kernel
theorem dL_law_4 : decode cL_law 4 = .ok (.invokespecial 9, 3) := by decide +kernel
theorem dL_law_7 : decode cL_law 7 = .ok (.astore_n 1, 1) := by decide +kernel
theorem dL_law_8 : decode cL_law 8 = .ok (.new 10, 3) := by decide +kernel
theorem dL_law_11 : decode cL_law 11 = .ok (.dup, 1) := by decide +kernel
theorem dL_law_12 : decode cL_law 12 = .ok (.invokespecial 12, 3) := by decide +kernel
theorem dL_law_15 : decode cL_law 15 = .ok (.astore_n 2, 1) := by decide +kernel
theorem dL_law_16 : decode cL_law 16 = .ok (.iconst 0, 1) := by decide +kernel
theorem dL_law_17 : decode cL_law 17 = .ok (.istore_n 3, 1) := by decide +kernel
theorem dL_law_18 : decode cL_law 18 = .ok (.iload_n 3, 1) := by decide +kernel
theorem dL_law_19 : decode cL_law 19 = .ok (.aload_n 0, 1) := by decide +kernel
theorem dL_law_20 : decode cL_law 20 = .ok (.arraylength, 1) := by decide +kernel
theorem dL_law_21 : decode cL_law 21 = .ok (.iconst 4, 1) := by decide +kernel
theorem dL_law_22 : decode cL_law 22 = .ok (.isub, 1) := by decide +kernel
theorem dL_law_23 : decode cL_law 23 = .ok (.if_icmp .gt 800, 3) := by decide +kernel
theorem dL_law_26 : decode cL_law 26 = .ok (.aload_n 0, 1) := by decide +kernel
theorem dL_law_27 : decode cL_law 27 = .ok (.iload_n 3, 1) := by decide +kernel
theorem dL_law_28 : decode cL_law 28 = .ok (.iaload, 1) := by decide +kernel
theorem dL_law_29 : decode cL_law 29 = .ok (.bipush 31, 2) := by decide +kernel
theorem dL_law_31 : decode cL_law 31 = .ok (.iand, 1) := by decide +kernel
theorem dL_law_32 : decode cL_law 32 = .ok (.tableswitch 785 0 22 #[108, 141, 200, 223, 246, 279, 304, 317, 330, 373, 406, 439, 452, 475, 498, 531, 554, 587, 620, 653, 696, 719, 752], 108) := by decide +kernel
theorem dL_law_140 : decode cL_law 140 = .ok (.aload_n 1, 1) := by decide +kernel
theorem dL_law_141 : decode cL_law 141 = .ok (.aload_n 0, 1) := by decide +kernel
theorem dL_law_142 : decode cL_law 142 = .ok (.iload_n 3, 1) := by decide +kernel
theorem dL_law_143 : decode cL_law 143 = .ok (.iconst 1, 1) := by decide +kernel
theorem dL_law_144 : decode cL_law 144 = .ok (.iadd, 1) := by decide +kernel
theorem dL_law_145 : decode cL_law 145 = .ok (.iaload, 1) := by decide +kernel
theorem dL_law_146 : decode cL_law 146 = .ok (.aload_n 0, 1) := by decide +kernel
theorem dL_law_147 : decode cL_law 147 = .ok (.iload_n 3, 1) := by decide +kernel
theorem dL_law_148 : decode cL_law 148 = .ok (.iconst 2, 1) := by decide +kernel
theorem dL_law_149 : decode cL_law 149 = .ok (.iadd, 1) := by decide +kernel
theorem dL_law_150 : decode cL_law 150 = .ok (.iaload, 1) := by decide +kernel
theorem dL_law_151 : decode cL_law 151 = .ok (.invokevirtual 13, 3) := by decide +kernel
theorem dL_law_154 : decode cL_law 154 = .ok (.aload_n 2, 1) := by decide +kernel
theorem dL_law_155 : decode cL_law 155 = .ok (.aload_n 0, 1) := by decide +kernel
theorem dL_law_156 : decode cL_law 156 = .ok (.iload_n 3, 1) := by decide +kernel
theorem dL_law_157 : decode cL_law 157 = .ok (.iconst 1, 1) := by decide +kernel
theorem dL_law_158 : decode cL_law 158 = .ok (.iadd, 1) := by decide +kernel
theorem dL_law_159 : decode cL_law 159 = .ok (.iaload, 1) := by decide +kernel
theorem dL_law_160 : decode cL_law 160 = .ok (.aload_n 0, 1) := by decide +kernel
theorem dL_law_161 : decode cL_law 161 = .ok (.iload_n 3, 1) := by decide +kernel
theorem dL_law_162 : decode cL_law 162 = .ok (.iconst 2, 1) := by decide +kernel
theorem dL_law_163 : decode cL_law 163 = .ok (.iadd, 1) := by decide +kernel
theorem dL_law_164 : decode cL_law 164 = .ok (.iaload, 1) := by decide +kernel
theorem dL_law_165 : decode cL_law 165 = .ok (.invokevirtual 17, 3) := by decide +kernel
theorem dL_law_168 : decode cL_law 168 = .ok (.if_icmp .eq 649, 3) := by decide +kernel
theorem dL_law_171 : decode cL_law 171 = .ok (.iconst 0, 1) := by decide +kernel
theorem dL_law_172 : decode cL_law 172 = .ok (.ireturn, 1) := by decide +kernel
theorem dL_law_173 : decode cL_law 173 = .ok (.aload_n 1, 1) := by decide +kernel
theorem dL_law_174 : decode cL_law 174 = .ok (.aload_n 0, 1) := by decide +kernel
theorem dL_law_175 : decode cL_law 175 = .ok (.iload_n 3, 1) := by decide +kernel
theorem dL_law_176 : decode cL_law 176 = .ok (.iconst 1, 1) := by decide +kernel
theorem dL_law_177 : decode cL_law 177 = .ok (.iadd, 1) := by decide +kernel
theorem dL_law_178 : decode cL_law 178 = .ok (.iaload, 1) := by decide +kernel
theorem dL_law_179 : decode cL_law 179 = .ok (.ifCond .eq 7, 3) := by decide +kernel
theorem dL_law_182 : decode cL_law 182 = .ok (.iconst 1, 1) := by decide +kernel
theorem dL_law_183 : decode cL_law 183 = .ok (.goto 4, 3) := by decide +kernel
theorem dL_law_186 : decode cL_law 186 = .ok (.iconst 0, 1) := by decide +kernel
theorem dL_law_187 : decode cL_law 187 = .ok (.aload_n 0, 1) := by decide +kernel
theorem dL_law_188 : decode cL_law 188 = .ok (.iload_n 3, 1) := by decide +kernel
theorem dL_law_189 : decode cL_law 189 = .ok (.iconst 2, 1) := by decide +kernel
theorem dL_law_190 : decode cL_law 190 = .ok (.iadd, 1) := by decide +kernel
theorem dL_law_191 : decode cL_law 191 = .ok (.iaload, 1) := by decide +kernel
theorem dL_law_192 : decode cL_law 192 = .ok (.aload_n 0, 1) := by decide +kernel
theorem dL_law_193 : decode cL_law 193 = .ok (.iload_n 3, 1) := by decide +kernel
theorem dL_law_194 : decode cL_law 194 = .ok (.iconst 3, 1) := by decide +kernel
theorem dL_law_195 : decode cL_law 195 = .ok (.iadd, 1) := by decide +kernel
theorem dL_law_196 : decode cL_law 196 = .ok (.iaload, 1) := by decide +kernel
theorem dL_law_197 : decode cL_law 197 = .ok (.invokevirtual 18, 3) := by decide +kernel
theorem dL_law_200 : decode cL_law 200 = .ok (.aload_n 2, 1) := by decide +kernel
theorem dL_law_201 : decode cL_law 201 = .ok (.aload_n 0, 1) := by decide +kernel
theorem dL_law_202 : decode cL_law 202 = .ok (.iload_n 3, 1) := by decide +kernel
theorem dL_law_203 : decode cL_law 203 = .ok (.iconst 1, 1) := by decide +kernel
theorem dL_law_204 : decode cL_law 204 = .ok (.iadd, 1) := by decide +kernel
theorem dL_law_205 : decode cL_law 205 = .ok (.iaload, 1) := by decide +kernel
theorem dL_law_206 : decode cL_law 206 = .ok (.ifCond .eq 7, 3) := by decide +kernel
theorem dL_law_209 : decode cL_law 209 = .ok (.iconst 1, 1) := by decide +kernel
theorem dL_law_210 : decode cL_law 210 = .ok (.goto 4, 3) := by decide +kernel
theorem dL_law_213 : decode cL_law 213 = .ok (.iconst 0, 1) := by decide +kernel
theorem dL_law_214 : decode cL_law 214 = .ok (.aload_n 0, 1) := by decide +kernel
theorem dL_law_215 : decode cL_law 215 = .ok (.iload_n 3, 1) := by decide +kernel
theorem dL_law_216 : decode cL_law 216 = .ok (.iconst 2, 1) := by decide +kernel
theorem dL_law_217 : decode cL_law 217 = .ok (.iadd, 1) := by decide +kernel
theorem dL_law_218 : decode cL_law 218 = .ok (.iaload, 1) := by decide +kernel
theorem dL_law_219 : decode cL_law 219 = .ok (.aload_n 0, 1) := by decide +kernel
theorem dL_law_220 : decode cL_law 220 = .ok (.iload_n 3, 1) := by decide +kernel
theorem dL_law_221 : decode cL_law 221 = .ok (.iconst 3, 1) := by decide +kernel
theorem dL_law_222 : decode cL_law 222 = .ok (.iadd, 1) := by decide +kernel
theorem dL_law_223 : decode cL_law 223 = .ok (.iaload, 1) := by decide +kernel
theorem dL_law_224 : decode cL_law 224 = .ok (.invokevirtual 22, 3) := by decide +kernel
theorem dL_law_227 : decode cL_law 227 = .ok (.if_icmp .eq 590, 3) := by decide +kernel
theorem dL_law_230 : decode cL_law 230 = .ok (.iconst 0, 1) := by decide +kernel
theorem dL_law_231 : decode cL_law 231 = .ok (.ireturn, 1) := by decide +kernel
theorem dL_law_232 : decode cL_law 232 = .ok (.aload_n 1, 1) := by decide +kernel
theorem dL_law_233 : decode cL_law 233 = .ok (.aload_n 0, 1) := by decide +kernel
theorem dL_law_234 : decode cL_law 234 = .ok (.iload_n 3, 1) := by decide +kernel
theorem dL_law_235 : decode cL_law 235 = .ok (.iconst 1, 1) := by decide +kernel
theorem dL_law_236 : decode cL_law 236 = .ok (.iadd, 1) := by decide +kernel
theorem dL_law_237 : decode cL_law 237 = .ok (.iaload, 1) := by decide +kernel
theorem dL_law_238 : decode cL_law 238 = .ok (.invokevirtual 23, 3) := by decide +kernel
theorem dL_law_241 : decode cL_law 241 = .ok (.aload_n 2, 1) := by decide +kernel
theorem dL_law_242 : decode cL_law 242 = .ok (.aload_n 0, 1) := by decide +kernel
theorem dL_law_243 : decode cL_law 243 = .ok (.iload_n 3, 1) := by decide +kernel
theorem dL_law_244 : decode cL_law 244 = .ok (.iconst 1, 1) := by decide +kernel
theorem dL_law_245 : decode cL_law 245 = .ok (.iadd, 1) := by decide +kernel
theorem dL_law_246 : decode cL_law 246 = .ok (.iaload, 1) := by decide +kernel
theorem dL_law_247 : decode cL_law 247 = .ok (.invokevirtual 27, 3) := by decide +kernel
theorem dL_law_250 : decode cL_law 250 = .ok (.if_icmp .eq 567, 3) := by decide +kernel
theorem dL_law_253 : decode cL_law 253 = .ok (.iconst 0, 1) := by decide +kernel
theorem dL_law_254 : decode cL_law 254 = .ok (.ireturn, 1) := by decide +kernel
theorem dL_law_255 : decode cL_law 255 = .ok (.aload_n 1, 1) := by decide +kernel
theorem dL_law_256 : decode cL_law 256 = .ok (.aload_n 0, 1) := by decide +kernel
theorem dL_law_257 : decode cL_law 257 = .ok (.iload_n 3, 1) := by decide +kernel
theorem dL_law_258 : decode cL_law 258 = .ok (.iconst 1, 1) := by decide +kernel
theorem dL_law_259 : decode cL_law 259 = .ok (.iadd, 1) := by decide +kernel
theorem dL_law_260 : decode cL_law 260 = .ok (.iaload, 1) := by decide +kernel
theorem dL_law_261 : decode cL_law 261 = .ok (.invokevirtual 28, 3) := by decide +kernel
theorem dL_law_264 : decode cL_law 264 = .ok (.aload_n 2, 1) := by decide +kernel
theorem dL_law_265 : decode cL_law 265 = .ok (.aload_n 0, 1) := by decide +kernel
theorem dL_law_266 : decode cL_law 266 = .ok (.iload_n 3, 1) := by decide +kernel
theorem dL_law_267 : decode cL_law 267 = .ok (.iconst 1, 1) := by decide +kernel
theorem dL_law_268 : decode cL_law 268 = .ok (.iadd, 1) := by decide +kernel
theorem dL_law_269 : decode cL_law 269 = .ok (.iaload, 1) := by decide +kernel
theorem dL_law_270 : decode cL_law 270 = .ok (.invokevirtual 31, 3) := by decide +kernel
theorem dL_law_273 : decode cL_law 273 = .ok (.if_icmp .eq 544, 3) := by decide +kernel
theorem dL_law_276 : decode cL_law 276 = .ok (.iconst 0, 1) := by decide +kernel
theorem dL_law_277 : decode cL_law 277 = .ok (.ireturn, 1) := by decide +kernel
theorem dL_law_278 : decode cL_law 278 = .ok (.aload_n 1, 1) := by decide +kernel
theorem dL_law_279 : decode cL_law 279 = .ok (.aload_n 0, 1) := by decide +kernel
theorem dL_law_280 : decode cL_law 280 = .ok (.iload_n 3, 1) := by decide +kernel
theorem dL_law_281 : decode cL_law 281 = .ok (.iconst 1, 1) := by decide +kernel
theorem dL_law_282 : decode cL_law 282 = .ok (.iadd, 1) := by decide +kernel
theorem dL_law_283 : decode cL_law 283 = .ok (.iaload, 1) := by decide +kernel
theorem dL_law_284 : decode cL_law 284 = .ok (.aload_n 0, 1) := by decide +kernel
theorem dL_law_285 : decode cL_law 285 = .ok (.iload_n 3, 1) := by decide +kernel
theorem dL_law_286 : decode cL_law 286 = .ok (.iconst 2, 1) := by decide +kernel
theorem dL_law_287 : decode cL_law 287 = .ok (.iadd, 1) := by decide +kernel
theorem dL_law_288 : decode cL_law 288 = .ok (.iaload, 1) := by decide +kernel
theorem dL_law_289 : decode cL_law 289 = .ok (.invokevirtual 32, 3) := by decide +kernel
theorem dL_law_292 : decode cL_law 292 = .ok (.aload_n 2, 1) := by decide +kernel
theorem dL_law_293 : decode cL_law 293 = .ok (.aload_n 0, 1) := by decide +kernel
theorem dL_law_294 : decode cL_law 294 = .ok (.iload_n 3, 1) := by decide +kernel
theorem dL_law_295 : decode cL_law 295 = .ok (.iconst 1, 1) := by decide +kernel
theorem dL_law_296 : decode cL_law 296 = .ok (.iadd, 1) := by decide +kernel
theorem dL_law_297 : decode cL_law 297 = .ok (.iaload, 1) := by decide +kernel
theorem dL_law_298 : decode cL_law 298 = .ok (.aload_n 0, 1) := by decide +kernel
theorem dL_law_299 : decode cL_law 299 = .ok (.iload_n 3, 1) := by decide +kernel
theorem dL_law_300 : decode cL_law 300 = .ok (.iconst 2, 1) := by decide +kernel
theorem dL_law_301 : decode cL_law 301 = .ok (.iadd, 1) := by decide +kernel
theorem dL_law_302 : decode cL_law 302 = .ok (.iaload, 1) := by decide +kernel
theorem dL_law_303 : decode cL_law 303 = .ok (.invokevirtual 35, 3) := by decide +kernel
theorem dL_law_306 : decode cL_law 306 = .ok (.if_icmp .eq 511, 3) := by decide +kernel
theorem dL_law_309 : decode cL_law 309 = .ok (.iconst 0, 1) := by decide +kernel
theorem dL_law_310 : decode cL_law 310 = .ok (.ireturn, 1) := by decide +kernel
theorem dL_law_311 : decode cL_law 311 = .ok (.aload_n 1, 1) := by decide +kernel
theorem dL_law_312 : decode cL_law 312 = .ok (.aload_n 0, 1) := by decide +kernel
theorem dL_law_313 : decode cL_law 313 = .ok (.iload_n 3, 1) := by decide +kernel
theorem dL_law_314 : decode cL_law 314 = .ok (.iconst 1, 1) := by decide +kernel
theorem dL_law_315 : decode cL_law 315 = .ok (.iadd, 1) := by decide +kernel
theorem dL_law_316 : decode cL_law 316 = .ok (.iaload, 1) := by decide +kernel
theorem dL_law_317 : decode cL_law 317 = .ok (.i2c, 1) := by decide +kernel
theorem dL_law_318 : decode cL_law 318 = .ok (.invokevirtual 36, 3) := by decide +kernel
theorem dL_law_321 : decode cL_law 321 = .ok (.aload_n 2, 1) := by decide +kernel
theorem dL_law_322 : decode cL_law 322 = .ok (.aload_n 0, 1) := by decide +kernel
theorem dL_law_323 : decode cL_law 323 = .ok (.iload_n 3, 1) := by decide +kernel
theorem dL_law_324 : decode cL_law 324 = .ok (.iconst 1, 1) := by decide +kernel
theorem dL_law_325 : decode cL_law 325 = .ok (.iadd, 1) := by decide +kernel
theorem dL_law_326 : decode cL_law 326 = .ok (.iaload, 1) := by decide +kernel
theorem dL_law_327 : decode cL_law 327 = .ok (.i2c, 1) := by decide +kernel
theorem dL_law_328 : decode cL_law 328 = .ok (.invokevirtual 40, 3) := by decide +kernel
theorem dL_law_331 : decode cL_law 331 = .ok (.if_icmp .eq 486, 3) := by decide +kernel
theorem dL_law_334 : decode cL_law 334 = .ok (.iconst 0, 1) := by decide +kernel
theorem dL_law_335 : decode cL_law 335 = .ok (.ireturn, 1) := by decide +kernel
theorem dL_law_336 : decode cL_law 336 = .ok (.aload_n 1, 1) := by decide +kernel
theorem dL_law_337 : decode cL_law 337 = .ok (.invokevirtual 41, 3) := by decide +kernel
theorem dL_law_340 : decode cL_law 340 = .ok (.aload_n 2, 1) := by decide +kernel
theorem dL_law_341 : decode cL_law 341 = .ok (.invokevirtual 45, 3) := by decide +kernel
theorem dL_law_344 : decode cL_law 344 = .ok (.if_icmp .eq 473, 3) := by decide +kernel
theorem dL_law_347 : decode cL_law 347 = .ok (.iconst 0, 1) := by decide +kernel
theorem dL_law_348 : decode cL_law 348 = .ok (.ireturn, 1) := by decide +kernel
theorem dL_law_349 : decode cL_law 349 = .ok (.aload_n 1, 1) := by decide +kernel
theorem dL_law_350 : decode cL_law 350 = .ok (.invokevirtual 46, 3) := by decide +kernel
theorem dL_law_353 : decode cL_law 353 = .ok (.aload_n 2, 1) := by decide +kernel
theorem dL_law_354 : decode cL_law 354 = .ok (.invokevirtual 49, 3) := by decide +kernel
theorem dL_law_357 : decode cL_law 357 = .ok (.if_icmp .eq 460, 3) := by decide +kernel
theorem dL_law_360 : decode cL_law 360 = .ok (.iconst 0, 1) := by decide +kernel
theorem dL_law_361 : decode cL_law 361 = .ok (.ireturn, 1) := by decide +kernel
theorem dL_law_362 : decode cL_law 362 = .ok (.aload_n 1, 1) := by decide +kernel
theorem dL_law_363 : decode cL_law 363 = .ok (.aload_n 0, 1) := by decide +kernel
theorem dL_law_364 : decode cL_law 364 = .ok (.iload_n 3, 1) := by decide +kernel
theorem dL_law_365 : decode cL_law 365 = .ok (.iconst 1, 1) := by decide +kernel
theorem dL_law_366 : decode cL_law 366 = .ok (.iadd, 1) := by decide +kernel
theorem dL_law_367 : decode cL_law 367 = .ok (.iaload, 1) := by decide +kernel
theorem dL_law_368 : decode cL_law 368 = .ok (.aload_n 0, 1) := by decide +kernel
theorem dL_law_369 : decode cL_law 369 = .ok (.iload_n 3, 1) := by decide +kernel
theorem dL_law_370 : decode cL_law 370 = .ok (.iconst 2, 1) := by decide +kernel
theorem dL_law_371 : decode cL_law 371 = .ok (.iadd, 1) := by decide +kernel
theorem dL_law_372 : decode cL_law 372 = .ok (.iaload, 1) := by decide +kernel
theorem dL_law_373 : decode cL_law 373 = .ok (.aload_n 0, 1) := by decide +kernel
theorem dL_law_374 : decode cL_law 374 = .ok (.iload_n 3, 1) := by decide +kernel
theorem dL_law_375 : decode cL_law 375 = .ok (.iconst 3, 1) := by decide +kernel
theorem dL_law_376 : decode cL_law 376 = .ok (.iadd, 1) := by decide +kernel
theorem dL_law_377 : decode cL_law 377 = .ok (.iaload, 1) := by decide +kernel
theorem dL_law_378 : decode cL_law 378 = .ok (.invokevirtual 50, 3) := by decide +kernel
theorem dL_law_381 : decode cL_law 381 = .ok (.aload_n 2, 1) := by decide +kernel
theorem dL_law_382 : decode cL_law 382 = .ok (.aload_n 0, 1) := by decide +kernel
theorem dL_law_383 : decode cL_law 383 = .ok (.iload_n 3, 1) := by decide +kernel
theorem dL_law_384 : decode cL_law 384 = .ok (.iconst 1, 1) := by decide +kernel
theorem dL_law_385 : decode cL_law 385 = .ok (.iadd, 1) := by decide +kernel
theorem dL_law_386 : decode cL_law 386 = .ok (.iaload, 1) := by decide +kernel
theorem dL_law_387 : decode cL_law 387 = .ok (.aload_n 0, 1) := by decide +kernel
theorem dL_law_388 : decode cL_law 388 = .ok (.iload_n 3, 1) := by decide +kernel
theorem dL_law_389 : decode cL_law 389 = .ok (.iconst 2, 1) := by decide +kernel
theorem dL_law_390 : decode cL_law 390 = .ok (.iadd, 1) := by decide +kernel
theorem dL_law_391 : decode cL_law 391 = .ok (.iaload, 1) := by decide +kernel
theorem dL_law_392 : decode cL_law 392 = .ok (.aload_n 0, 1) := by decide +kernel
theorem dL_law_393 : decode cL_law 393 = .ok (.iload_n 3, 1) := by decide +kernel
theorem dL_law_394 : decode cL_law 394 = .ok (.iconst 3, 1) := by decide +kernel
theorem dL_law_395 : decode cL_law 395 = .ok (.iadd, 1) := by decide +kernel
theorem dL_law_396 : decode cL_law 396 = .ok (.iaload, 1) := by decide +kernel
theorem dL_law_397 : decode cL_law 397 = .ok (.invokevirtual 54, 3) := by decide +kernel
theorem dL_law_400 : decode cL_law 400 = .ok (.if_icmp .eq 417, 3) := by decide +kernel
theorem dL_law_403 : decode cL_law 403 = .ok (.iconst 0, 1) := by decide +kernel
theorem dL_law_404 : decode cL_law 404 = .ok (.ireturn, 1) := by decide +kernel
theorem dL_law_405 : decode cL_law 405 = .ok (.aload_n 1, 1) := by decide +kernel
theorem dL_law_406 : decode cL_law 406 = .ok (.aload_n 0, 1) := by decide +kernel
theorem dL_law_407 : decode cL_law 407 = .ok (.iload_n 3, 1) := by decide +kernel
theorem dL_law_408 : decode cL_law 408 = .ok (.iconst 1, 1) := by decide +kernel
theorem dL_law_409 : decode cL_law 409 = .ok (.iadd, 1) := by decide +kernel
theorem dL_law_410 : decode cL_law 410 = .ok (.iaload, 1) := by decide +kernel
theorem dL_law_411 : decode cL_law 411 = .ok (.aload_n 0, 1) := by decide +kernel
theorem dL_law_412 : decode cL_law 412 = .ok (.iload_n 3, 1) := by decide +kernel
theorem dL_law_413 : decode cL_law 413 = .ok (.iconst 2, 1) := by decide +kernel
theorem dL_law_414 : decode cL_law 414 = .ok (.iadd, 1) := by decide +kernel
theorem dL_law_415 : decode cL_law 415 = .ok (.iaload, 1) := by decide +kernel
theorem dL_law_416 : decode cL_law 416 = .ok (.invokevirtual 55, 3) := by decide +kernel
theorem dL_law_419 : decode cL_law 419 = .ok (.aload_n 2, 1) := by decide +kernel
theorem dL_law_420 : decode cL_law 420 = .ok (.aload_n 0, 1) := by decide +kernel
theorem dL_law_421 : decode cL_law 421 = .ok (.iload_n 3, 1) := by decide +kernel
theorem dL_law_422 : decode cL_law 422 = .ok (.iconst 1, 1) := by decide +kernel
theorem dL_law_423 : decode cL_law 423 = .ok (.iadd, 1) := by decide +kernel
theorem dL_law_424 : decode cL_law 424 = .ok (.iaload, 1) := by decide +kernel
theorem dL_law_425 : decode cL_law 425 = .ok (.aload_n 0, 1) := by decide +kernel
theorem dL_law_426 : decode cL_law 426 = .ok (.iload_n 3, 1) := by decide +kernel
theorem dL_law_427 : decode cL_law 427 = .ok (.iconst 2, 1) := by decide +kernel
theorem dL_law_428 : decode cL_law 428 = .ok (.iadd, 1) := by decide +kernel
theorem dL_law_429 : decode cL_law 429 = .ok (.iaload, 1) := by decide +kernel
theorem dL_law_430 : decode cL_law 430 = .ok (.invokevirtual 58, 3) := by decide +kernel
theorem dL_law_433 : decode cL_law 433 = .ok (.if_icmp .eq 384, 3) := by decide +kernel
theorem dL_law_436 : decode cL_law 436 = .ok (.iconst 0, 1) := by decide +kernel
theorem dL_law_437 : decode cL_law 437 = .ok (.ireturn, 1) := by decide +kernel
theorem dL_law_438 : decode cL_law 438 = .ok (.aload_n 1, 1) := by decide +kernel
theorem dL_law_439 : decode cL_law 439 = .ok (.aload_n 0, 1) := by decide +kernel
theorem dL_law_440 : decode cL_law 440 = .ok (.iload_n 3, 1) := by decide +kernel
theorem dL_law_441 : decode cL_law 441 = .ok (.iconst 1, 1) := by decide +kernel
theorem dL_law_442 : decode cL_law 442 = .ok (.iadd, 1) := by decide +kernel
theorem dL_law_443 : decode cL_law 443 = .ok (.iaload, 1) := by decide +kernel
theorem dL_law_444 : decode cL_law 444 = .ok (.aload_n 0, 1) := by decide +kernel
theorem dL_law_445 : decode cL_law 445 = .ok (.iload_n 3, 1) := by decide +kernel
theorem dL_law_446 : decode cL_law 446 = .ok (.iconst 2, 1) := by decide +kernel
theorem dL_law_447 : decode cL_law 447 = .ok (.iadd, 1) := by decide +kernel
theorem dL_law_448 : decode cL_law 448 = .ok (.iaload, 1) := by decide +kernel
theorem dL_law_449 : decode cL_law 449 = .ok (.invokevirtual 59, 3) := by decide +kernel
theorem dL_law_452 : decode cL_law 452 = .ok (.aload_n 2, 1) := by decide +kernel
theorem dL_law_453 : decode cL_law 453 = .ok (.aload_n 0, 1) := by decide +kernel
theorem dL_law_454 : decode cL_law 454 = .ok (.iload_n 3, 1) := by decide +kernel
theorem dL_law_455 : decode cL_law 455 = .ok (.iconst 1, 1) := by decide +kernel
theorem dL_law_456 : decode cL_law 456 = .ok (.iadd, 1) := by decide +kernel
theorem dL_law_457 : decode cL_law 457 = .ok (.iaload, 1) := by decide +kernel
theorem dL_law_458 : decode cL_law 458 = .ok (.aload_n 0, 1) := by decide +kernel
theorem dL_law_459 : decode cL_law 459 = .ok (.iload_n 3, 1) := by decide +kernel
theorem dL_law_460 : decode cL_law 460 = .ok (.iconst 2, 1) := by decide +kernel
theorem dL_law_461 : decode cL_law 461 = .ok (.iadd, 1) := by decide +kernel
theorem dL_law_462 : decode cL_law 462 = .ok (.iaload, 1) := by decide +kernel
theorem dL_law_463 : decode cL_law 463 = .ok (.invokevirtual 62, 3) := by decide +kernel
theorem dL_law_466 : decode cL_law 466 = .ok (.if_icmp .eq 351, 3) := by decide +kernel
theorem dL_law_469 : decode cL_law 469 = .ok (.iconst 0, 1) := by decide +kernel
theorem dL_law_470 : decode cL_law 470 = .ok (.ireturn, 1) := by decide +kernel
theorem dL_law_471 : decode cL_law 471 = .ok (.aload_n 1, 1) := by decide +kernel
theorem dL_law_472 : decode cL_law 472 = .ok (.invokevirtual 63, 3) := by decide +kernel
theorem dL_law_475 : decode cL_law 475 = .ok (.aload_n 2, 1) := by decide +kernel
theorem dL_law_476 : decode cL_law 476 = .ok (.invokevirtual 66, 3) := by decide +kernel
theorem dL_law_479 : decode cL_law 479 = .ok (.if_icmp .eq 338, 3) := by decide +kernel
theorem dL_law_482 : decode cL_law 482 = .ok (.iconst 0, 1) := by decide +kernel
theorem dL_law_483 : decode cL_law 483 = .ok (.ireturn, 1) := by decide +kernel
theorem dL_law_484 : decode cL_law 484 = .ok (.aload_n 1, 1) := by decide +kernel
theorem dL_law_485 : decode cL_law 485 = .ok (.aload_n 0, 1) := by decide +kernel
theorem dL_law_486 : decode cL_law 486 = .ok (.iload_n 3, 1) := by decide +kernel
theorem dL_law_487 : decode cL_law 487 = .ok (.iconst 1, 1) := by decide +kernel
theorem dL_law_488 : decode cL_law 488 = .ok (.iadd, 1) := by decide +kernel
theorem dL_law_489 : decode cL_law 489 = .ok (.iaload, 1) := by decide +kernel
theorem dL_law_490 : decode cL_law 490 = .ok (.invokevirtual 67, 3) := by decide +kernel
theorem dL_law_493 : decode cL_law 493 = .ok (.aload_n 2, 1) := by decide +kernel
theorem dL_law_494 : decode cL_law 494 = .ok (.aload_n 0, 1) := by decide +kernel
theorem dL_law_495 : decode cL_law 495 = .ok (.iload_n 3, 1) := by decide +kernel
theorem dL_law_496 : decode cL_law 496 = .ok (.iconst 1, 1) := by decide +kernel
theorem dL_law_497 : decode cL_law 497 = .ok (.iadd, 1) := by decide +kernel
theorem dL_law_498 : decode cL_law 498 = .ok (.iaload, 1) := by decide +kernel
theorem dL_law_499 : decode cL_law 499 = .ok (.invokevirtual 70, 3) := by decide +kernel
theorem dL_law_502 : decode cL_law 502 = .ok (.if_icmp .eq 315, 3) := by decide +kernel
theorem dL_law_505 : decode cL_law 505 = .ok (.iconst 0, 1) := by decide +kernel
theorem dL_law_506 : decode cL_law 506 = .ok (.ireturn, 1) := by decide +kernel
theorem dL_law_507 : decode cL_law 507 = .ok (.aload_n 1, 1) := by decide +kernel
theorem dL_law_508 : decode cL_law 508 = .ok (.aload_n 0, 1) := by decide +kernel
theorem dL_law_509 : decode cL_law 509 = .ok (.iload_n 3, 1) := by decide +kernel
theorem dL_law_510 : decode cL_law 510 = .ok (.iconst 1, 1) := by decide +kernel
theorem dL_law_511 : decode cL_law 511 = .ok (.iadd, 1) := by decide +kernel
theorem dL_law_512 : decode cL_law 512 = .ok (.iaload, 1) := by decide +kernel
theorem dL_law_513 : decode cL_law 513 = .ok (.invokevirtual 71, 3) := by decide +kernel
theorem dL_law_516 : decode cL_law 516 = .ok (.aload_n 2, 1) := by decide +kernel
theorem dL_law_517 : decode cL_law 517 = .ok (.aload_n 0, 1) := by decide +kernel
theorem dL_law_518 : decode cL_law 518 = .ok (.iload_n 3, 1) := by decide +kernel
theorem dL_law_519 : decode cL_law 519 = .ok (.iconst 1, 1) := by decide +kernel
theorem dL_law_520 : decode cL_law 520 = .ok (.iadd, 1) := by decide +kernel
theorem dL_law_521 : decode cL_law 521 = .ok (.iaload, 1) := by decide +kernel
theorem dL_law_522 : decode cL_law 522 = .ok (.invokevirtual 74, 3) := by decide +kernel
theorem dL_law_525 : decode cL_law 525 = .ok (.if_icmp .eq 292, 3) := by decide +kernel
theorem dL_law_528 : decode cL_law 528 = .ok (.iconst 0, 1) := by decide +kernel
theorem dL_law_529 : decode cL_law 529 = .ok (.ireturn, 1) := by decide +kernel
theorem dL_law_530 : decode cL_law 530 = .ok (.aload_n 1, 1) := by decide +kernel
theorem dL_law_531 : decode cL_law 531 = .ok (.aload_n 0, 1) := by decide +kernel
theorem dL_law_532 : decode cL_law 532 = .ok (.iload_n 3, 1) := by decide +kernel
theorem dL_law_533 : decode cL_law 533 = .ok (.iconst 1, 1) := by decide +kernel
theorem dL_law_534 : decode cL_law 534 = .ok (.iadd, 1) := by decide +kernel
theorem dL_law_535 : decode cL_law 535 = .ok (.iaload, 1) := by decide +kernel
theorem dL_law_536 : decode cL_law 536 = .ok (.aload_n 0, 1) := by decide +kernel
theorem dL_law_537 : decode cL_law 537 = .ok (.iload_n 3, 1) := by decide +kernel
theorem dL_law_538 : decode cL_law 538 = .ok (.iconst 2, 1) := by decide +kernel
theorem dL_law_539 : decode cL_law 539 = .ok (.iadd, 1) := by decide +kernel
theorem dL_law_540 : decode cL_law 540 = .ok (.iaload, 1) := by decide +kernel
theorem dL_law_541 : decode cL_law 541 = .ok (.invokevirtual 75, 3) := by decide +kernel
theorem dL_law_544 : decode cL_law 544 = .ok (.aload_n 2, 1) := by decide +kernel
theorem dL_law_545 : decode cL_law 545 = .ok (.aload_n 0, 1) := by decide +kernel
theorem dL_law_546 : decode cL_law 546 = .ok (.iload_n 3, 1) := by decide +kernel
theorem dL_law_547 : decode cL_law 547 = .ok (.iconst 1, 1) := by decide +kernel
theorem dL_law_548 : decode cL_law 548 = .ok (.iadd, 1) := by decide +kernel
theorem dL_law_549 : decode cL_law 549 = .ok (.iaload, 1) := by decide +kernel
theorem dL_law_550 : decode cL_law 550 = .ok (.aload_n 0, 1) := by decide +kernel
theorem dL_law_551 : decode cL_law 551 = .ok (.iload_n 3, 1) := by decide +kernel
theorem dL_law_552 : decode cL_law 552 = .ok (.iconst 2, 1) := by decide +kernel
theorem dL_law_553 : decode cL_law 553 = .ok (.iadd, 1) := by decide +kernel
theorem dL_law_554 : decode cL_law 554 = .ok (.iaload, 1) := by decide +kernel
theorem dL_law_555 : decode cL_law 555 = .ok (.invokevirtual 78, 3) := by decide +kernel
theorem dL_law_558 : decode cL_law 558 = .ok (.if_icmp .eq 259, 3) := by decide +kernel
theorem dL_law_561 : decode cL_law 561 = .ok (.iconst 0, 1) := by decide +kernel
theorem dL_law_562 : decode cL_law 562 = .ok (.ireturn, 1) := by decide +kernel
theorem dL_law_563 : decode cL_law 563 = .ok (.aload_n 1, 1) := by decide +kernel
theorem dL_law_564 : decode cL_law 564 = .ok (.aload_n 0, 1) := by decide +kernel
theorem dL_law_565 : decode cL_law 565 = .ok (.iload_n 3, 1) := by decide +kernel
theorem dL_law_566 : decode cL_law 566 = .ok (.iconst 1, 1) := by decide +kernel
theorem dL_law_567 : decode cL_law 567 = .ok (.iadd, 1) := by decide +kernel
theorem dL_law_568 : decode cL_law 568 = .ok (.iaload, 1) := by decide +kernel
theorem dL_law_569 : decode cL_law 569 = .ok (.invokevirtual 79, 3) := by decide +kernel
theorem dL_law_572 : decode cL_law 572 = .ok (.aload_n 2, 1) := by decide +kernel
theorem dL_law_573 : decode cL_law 573 = .ok (.aload_n 0, 1) := by decide +kernel
theorem dL_law_574 : decode cL_law 574 = .ok (.iload_n 3, 1) := by decide +kernel
theorem dL_law_575 : decode cL_law 575 = .ok (.iconst 1, 1) := by decide +kernel
theorem dL_law_576 : decode cL_law 576 = .ok (.iadd, 1) := by decide +kernel
theorem dL_law_577 : decode cL_law 577 = .ok (.iaload, 1) := by decide +kernel
theorem dL_law_578 : decode cL_law 578 = .ok (.invokevirtual 82, 3) := by decide +kernel
theorem dL_law_581 : decode cL_law 581 = .ok (.if_icmp .eq 236, 3) := by decide +kernel
theorem dL_law_584 : decode cL_law 584 = .ok (.iconst 0, 1) := by decide +kernel
theorem dL_law_585 : decode cL_law 585 = .ok (.ireturn, 1) := by decide +kernel
theorem dL_law_586 : decode cL_law 586 = .ok (.aload_n 1, 1) := by decide +kernel
theorem dL_law_587 : decode cL_law 587 = .ok (.aload_n 0, 1) := by decide +kernel
theorem dL_law_588 : decode cL_law 588 = .ok (.iload_n 3, 1) := by decide +kernel
theorem dL_law_589 : decode cL_law 589 = .ok (.iconst 1, 1) := by decide +kernel
theorem dL_law_590 : decode cL_law 590 = .ok (.iadd, 1) := by decide +kernel
theorem dL_law_591 : decode cL_law 591 = .ok (.iaload, 1) := by decide +kernel
theorem dL_law_592 : decode cL_law 592 = .ok (.aload_n 0, 1) := by decide +kernel
theorem dL_law_593 : decode cL_law 593 = .ok (.iload_n 3, 1) := by decide +kernel
theorem dL_law_594 : decode cL_law 594 = .ok (.iconst 2, 1) := by decide +kernel
theorem dL_law_595 : decode cL_law 595 = .ok (.iadd, 1) := by decide +kernel
theorem dL_law_596 : decode cL_law 596 = .ok (.iaload, 1) := by decide +kernel
theorem dL_law_597 : decode cL_law 597 = .ok (.invokevirtual 83, 3) := by decide +kernel
theorem dL_law_600 : decode cL_law 600 = .ok (.aload_n 2, 1) := by decide +kernel
theorem dL_law_601 : decode cL_law 601 = .ok (.aload_n 0, 1) := by decide +kernel
theorem dL_law_602 : decode cL_law 602 = .ok (.iload_n 3, 1) := by decide +kernel
theorem dL_law_603 : decode cL_law 603 = .ok (.iconst 1, 1) := by decide +kernel
theorem dL_law_604 : decode cL_law 604 = .ok (.iadd, 1) := by decide +kernel
theorem dL_law_605 : decode cL_law 605 = .ok (.iaload, 1) := by decide +kernel
theorem dL_law_606 : decode cL_law 606 = .ok (.aload_n 0, 1) := by decide +kernel
theorem dL_law_607 : decode cL_law 607 = .ok (.iload_n 3, 1) := by decide +kernel
theorem dL_law_608 : decode cL_law 608 = .ok (.iconst 2, 1) := by decide +kernel
theorem dL_law_609 : decode cL_law 609 = .ok (.iadd, 1) := by decide +kernel
theorem dL_law_610 : decode cL_law 610 = .ok (.iaload, 1) := by decide +kernel
theorem dL_law_611 : decode cL_law 611 = .ok (.invokevirtual 86, 3) := by decide +kernel
theorem dL_law_614 : decode cL_law 614 = .ok (.if_icmp .eq 203, 3) := by decide +kernel
theorem dL_law_617 : decode cL_law 617 = .ok (.iconst 0, 1) := by decide +kernel
theorem dL_law_618 : decode cL_law 618 = .ok (.ireturn, 1) := by decide +kernel
theorem dL_law_619 : decode cL_law 619 = .ok (.aload_n 1, 1) := by decide +kernel
theorem dL_law_620 : decode cL_law 620 = .ok (.aload_n 0, 1) := by decide +kernel
theorem dL_law_621 : decode cL_law 621 = .ok (.iload_n 3, 1) := by decide +kernel
theorem dL_law_622 : decode cL_law 622 = .ok (.iconst 1, 1) := by decide +kernel
theorem dL_law_623 : decode cL_law 623 = .ok (.iadd, 1) := by decide +kernel
theorem dL_law_624 : decode cL_law 624 = .ok (.iaload, 1) := by decide +kernel
theorem dL_law_625 : decode cL_law 625 = .ok (.aload_n 0, 1) := by decide +kernel
theorem dL_law_626 : decode cL_law 626 = .ok (.iload_n 3, 1) := by decide +kernel
theorem dL_law_627 : decode cL_law 627 = .ok (.iconst 2, 1) := by decide +kernel
theorem dL_law_628 : decode cL_law 628 = .ok (.iadd, 1) := by decide +kernel
theorem dL_law_629 : decode cL_law 629 = .ok (.iaload, 1) := by decide +kernel
theorem dL_law_630 : decode cL_law 630 = .ok (.invokevirtual 87, 3) := by decide +kernel
theorem dL_law_633 : decode cL_law 633 = .ok (.aload_n 2, 1) := by decide +kernel
theorem dL_law_634 : decode cL_law 634 = .ok (.aload_n 0, 1) := by decide +kernel
theorem dL_law_635 : decode cL_law 635 = .ok (.iload_n 3, 1) := by decide +kernel
theorem dL_law_636 : decode cL_law 636 = .ok (.iconst 1, 1) := by decide +kernel
theorem dL_law_637 : decode cL_law 637 = .ok (.iadd, 1) := by decide +kernel
theorem dL_law_638 : decode cL_law 638 = .ok (.iaload, 1) := by decide +kernel
theorem dL_law_639 : decode cL_law 639 = .ok (.aload_n 0, 1) := by decide +kernel
theorem dL_law_640 : decode cL_law 640 = .ok (.iload_n 3, 1) := by decide +kernel
theorem dL_law_641 : decode cL_law 641 = .ok (.iconst 2, 1) := by decide +kernel
theorem dL_law_642 : decode cL_law 642 = .ok (.iadd, 1) := by decide +kernel
theorem dL_law_643 : decode cL_law 643 = .ok (.iaload, 1) := by decide +kernel
theorem dL_law_644 : decode cL_law 644 = .ok (.invokevirtual 90, 3) := by decide +kernel
theorem dL_law_647 : decode cL_law 647 = .ok (.if_icmp .eq 170, 3) := by decide +kernel
theorem dL_law_650 : decode cL_law 650 = .ok (.iconst 0, 1) := by decide +kernel
theorem dL_law_651 : decode cL_law 651 = .ok (.ireturn, 1) := by decide +kernel
theorem dL_law_652 : decode cL_law 652 = .ok (.aload_n 1, 1) := by decide +kernel
theorem dL_law_653 : decode cL_law 653 = .ok (.aload_n 0, 1) := by decide +kernel
theorem dL_law_654 : decode cL_law 654 = .ok (.iload_n 3, 1) := by decide +kernel
theorem dL_law_655 : decode cL_law 655 = .ok (.iconst 1, 1) := by decide +kernel
theorem dL_law_656 : decode cL_law 656 = .ok (.iadd, 1) := by decide +kernel
theorem dL_law_657 : decode cL_law 657 = .ok (.iaload, 1) := by decide +kernel
theorem dL_law_658 : decode cL_law 658 = .ok (.aload_n 0, 1) := by decide +kernel
theorem dL_law_659 : decode cL_law 659 = .ok (.iload_n 3, 1) := by decide +kernel
theorem dL_law_660 : decode cL_law 660 = .ok (.iconst 2, 1) := by decide +kernel
theorem dL_law_661 : decode cL_law 661 = .ok (.iadd, 1) := by decide +kernel
theorem dL_law_662 : decode cL_law 662 = .ok (.iaload, 1) := by decide +kernel
theorem dL_law_663 : decode cL_law 663 = .ok (.invokevirtual 91, 3) := by decide +kernel
theorem dL_law_666 : decode cL_law 666 = .ok (.aload_n 2, 1) := by decide +kernel
theorem dL_law_667 : decode cL_law 667 = .ok (.aload_n 0, 1) := by decide +kernel
theorem dL_law_668 : decode cL_law 668 = .ok (.iload_n 3, 1) := by decide +kernel
theorem dL_law_669 : decode cL_law 669 = .ok (.iconst 1, 1) := by decide +kernel
theorem dL_law_670 : decode cL_law 670 = .ok (.iadd, 1) := by decide +kernel
theorem dL_law_671 : decode cL_law 671 = .ok (.iaload, 1) := by decide +kernel
theorem dL_law_672 : decode cL_law 672 = .ok (.aload_n 0, 1) := by decide +kernel
theorem dL_law_673 : decode cL_law 673 = .ok (.iload_n 3, 1) := by decide +kernel
theorem dL_law_674 : decode cL_law 674 = .ok (.iconst 2, 1) := by decide +kernel
theorem dL_law_675 : decode cL_law 675 = .ok (.iadd, 1) := by decide +kernel
theorem dL_law_676 : decode cL_law 676 = .ok (.iaload, 1) := by decide +kernel
theorem dL_law_677 : decode cL_law 677 = .ok (.invokevirtual 94, 3) := by decide +kernel
theorem dL_law_680 : decode cL_law 680 = .ok (.if_icmp .eq 137, 3) := by decide +kernel
theorem dL_law_683 : decode cL_law 683 = .ok (.iconst 0, 1) := by decide +kernel
theorem dL_law_684 : decode cL_law 684 = .ok (.ireturn, 1) := by decide +kernel
theorem dL_law_685 : decode cL_law 685 = .ok (.aload_n 1, 1) := by decide +kernel
theorem dL_law_686 : decode cL_law 686 = .ok (.aload_n 0, 1) := by decide +kernel
theorem dL_law_687 : decode cL_law 687 = .ok (.iload_n 3, 1) := by decide +kernel
theorem dL_law_688 : decode cL_law 688 = .ok (.iconst 1, 1) := by decide +kernel
theorem dL_law_689 : decode cL_law 689 = .ok (.iadd, 1) := by decide +kernel
theorem dL_law_690 : decode cL_law 690 = .ok (.iaload, 1) := by decide +kernel
theorem dL_law_691 : decode cL_law 691 = .ok (.aload_n 0, 1) := by decide +kernel
theorem dL_law_692 : decode cL_law 692 = .ok (.iload_n 3, 1) := by decide +kernel
theorem dL_law_693 : decode cL_law 693 = .ok (.iconst 2, 1) := by decide +kernel
theorem dL_law_694 : decode cL_law 694 = .ok (.iadd, 1) := by decide +kernel
theorem dL_law_695 : decode cL_law 695 = .ok (.iaload, 1) := by decide +kernel
theorem dL_law_696 : decode cL_law 696 = .ok (.aload_n 0, 1) := by decide +kernel
theorem dL_law_697 : decode cL_law 697 = .ok (.iload_n 3, 1) := by decide +kernel
theorem dL_law_698 : decode cL_law 698 = .ok (.iconst 3, 1) := by decide +kernel
theorem dL_law_699 : decode cL_law 699 = .ok (.iadd, 1) := by decide +kernel
theorem dL_law_700 : decode cL_law 700 = .ok (.iaload, 1) := by decide +kernel
theorem dL_law_701 : decode cL_law 701 = .ok (.invokevirtual 95, 3) := by decide +kernel
theorem dL_law_704 : decode cL_law 704 = .ok (.aload_n 2, 1) := by decide +kernel
theorem dL_law_705 : decode cL_law 705 = .ok (.aload_n 0, 1) := by decide +kernel
theorem dL_law_706 : decode cL_law 706 = .ok (.iload_n 3, 1) := by decide +kernel
theorem dL_law_707 : decode cL_law 707 = .ok (.iconst 1, 1) := by decide +kernel
theorem dL_law_708 : decode cL_law 708 = .ok (.iadd, 1) := by decide +kernel
theorem dL_law_709 : decode cL_law 709 = .ok (.iaload, 1) := by decide +kernel
theorem dL_law_710 : decode cL_law 710 = .ok (.aload_n 0, 1) := by decide +kernel
theorem dL_law_711 : decode cL_law 711 = .ok (.iload_n 3, 1) := by decide +kernel
theorem dL_law_712 : decode cL_law 712 = .ok (.iconst 2, 1) := by decide +kernel
theorem dL_law_713 : decode cL_law 713 = .ok (.iadd, 1) := by decide +kernel
theorem dL_law_714 : decode cL_law 714 = .ok (.iaload, 1) := by decide +kernel
theorem dL_law_715 : decode cL_law 715 = .ok (.aload_n 0, 1) := by decide +kernel
theorem dL_law_716 : decode cL_law 716 = .ok (.iload_n 3, 1) := by decide +kernel
theorem dL_law_717 : decode cL_law 717 = .ok (.iconst 3, 1) := by decide +kernel
theorem dL_law_718 : decode cL_law 718 = .ok (.iadd, 1) := by decide +kernel
theorem dL_law_719 : decode cL_law 719 = .ok (.iaload, 1) := by decide +kernel
theorem dL_law_720 : decode cL_law 720 = .ok (.invokevirtual 98, 3) := by decide +kernel
theorem dL_law_723 : decode cL_law 723 = .ok (.if_icmp .eq 94, 3) := by decide +kernel
theorem dL_law_726 : decode cL_law 726 = .ok (.iconst 0, 1) := by decide +kernel
theorem dL_law_727 : decode cL_law 727 = .ok (.ireturn, 1) := by decide +kernel
theorem dL_law_728 : decode cL_law 728 = .ok (.aload_n 1, 1) := by decide +kernel
theorem dL_law_729 : decode cL_law 729 = .ok (.aload_n 0, 1) := by decide +kernel
theorem dL_law_730 : decode cL_law 730 = .ok (.iload_n 3, 1) := by decide +kernel
theorem dL_law_731 : decode cL_law 731 = .ok (.iconst 1, 1) := by decide +kernel
theorem dL_law_732 : decode cL_law 732 = .ok (.iadd, 1) := by decide +kernel
theorem dL_law_733 : decode cL_law 733 = .ok (.iaload, 1) := by decide +kernel
theorem dL_law_734 : decode cL_law 734 = .ok (.invokevirtual 99, 3) := by decide +kernel
theorem dL_law_737 : decode cL_law 737 = .ok (.aload_n 2, 1) := by decide +kernel
theorem dL_law_738 : decode cL_law 738 = .ok (.aload_n 0, 1) := by decide +kernel
theorem dL_law_739 : decode cL_law 739 = .ok (.iload_n 3, 1) := by decide +kernel
theorem dL_law_740 : decode cL_law 740 = .ok (.iconst 1, 1) := by decide +kernel
theorem dL_law_741 : decode cL_law 741 = .ok (.iadd, 1) := by decide +kernel
theorem dL_law_742 : decode cL_law 742 = .ok (.iaload, 1) := by decide +kernel
theorem dL_law_743 : decode cL_law 743 = .ok (.invokevirtual 102, 3) := by decide +kernel
theorem dL_law_746 : decode cL_law 746 = .ok (.if_icmp .eq 71, 3) := by decide +kernel
theorem dL_law_749 : decode cL_law 749 = .ok (.iconst 0, 1) := by decide +kernel
theorem dL_law_750 : decode cL_law 750 = .ok (.ireturn, 1) := by decide +kernel
theorem dL_law_751 : decode cL_law 751 = .ok (.aload_n 1, 1) := by decide +kernel
theorem dL_law_752 : decode cL_law 752 = .ok (.aload_n 0, 1) := by decide +kernel
theorem dL_law_753 : decode cL_law 753 = .ok (.iload_n 3, 1) := by decide +kernel
theorem dL_law_754 : decode cL_law 754 = .ok (.iconst 1, 1) := by decide +kernel
theorem dL_law_755 : decode cL_law 755 = .ok (.iadd, 1) := by decide +kernel
theorem dL_law_756 : decode cL_law 756 = .ok (.iaload, 1) := by decide +kernel
theorem dL_law_757 : decode cL_law 757 = .ok (.aload_n 0, 1) := by decide +kernel
theorem dL_law_758 : decode cL_law 758 = .ok (.iload_n 3, 1) := by decide +kernel
theorem dL_law_759 : decode cL_law 759 = .ok (.iconst 2, 1) := by decide +kernel
theorem dL_law_760 : decode cL_law 760 = .ok (.iadd, 1) := by decide +kernel
theorem dL_law_761 : decode cL_law 761 = .ok (.iaload, 1) := by decide +kernel
theorem dL_law_762 : decode cL_law 762 = .ok (.invokevirtual 103, 3) := by decide +kernel
theorem dL_law_765 : decode cL_law 765 = .ok (.aload_n 2, 1) := by decide +kernel
theorem dL_law_766 : decode cL_law 766 = .ok (.aload_n 0, 1) := by decide +kernel
theorem dL_law_767 : decode cL_law 767 = .ok (.iload_n 3, 1) := by decide +kernel
theorem dL_law_768 : decode cL_law 768 = .ok (.iconst 1, 1) := by decide +kernel
theorem dL_law_769 : decode cL_law 769 = .ok (.iadd, 1) := by decide +kernel
theorem dL_law_770 : decode cL_law 770 = .ok (.iaload, 1) := by decide +kernel
theorem dL_law_771 : decode cL_law 771 = .ok (.aload_n 0, 1) := by decide +kernel
theorem dL_law_772 : decode cL_law 772 = .ok (.iload_n 3, 1) := by decide +kernel
theorem dL_law_773 : decode cL_law 773 = .ok (.iconst 2, 1) := by decide +kernel
theorem dL_law_774 : decode cL_law 774 = .ok (.iadd, 1) := by decide +kernel
theorem dL_law_775 : decode cL_law 775 = .ok (.iaload, 1) := by decide +kernel
theorem dL_law_776 : decode cL_law 776 = .ok (.invokevirtual 106, 3) := by decide +kernel
theorem dL_law_779 : decode cL_law 779 = .ok (.if_icmp .eq 38, 3) := by decide +kernel
theorem dL_law_782 : decode cL_law 782 = .ok (.iconst 0, 1) := by decide +kernel
theorem dL_law_783 : decode cL_law 783 = .ok (.ireturn, 1) := by decide +kernel
theorem dL_law_784 : decode cL_law 784 = .ok (.aload_n 1, 1) := by decide +kernel
theorem dL_law_785 : decode cL_law 785 = .ok (.aload_n 0, 1) := by decide +kernel
theorem dL_law_786 : decode cL_law 786 = .ok (.iload_n 3, 1) := by decide +kernel
theorem dL_law_787 : decode cL_law 787 = .ok (.iconst 1, 1) := by decide +kernel
theorem dL_law_788 : decode cL_law 788 = .ok (.iadd, 1) := by decide +kernel
theorem dL_law_789 : decode cL_law 789 = .ok (.iaload, 1) := by decide +kernel
theorem dL_law_790 : decode cL_law 790 = .ok (.aload_n 0, 1) := by decide +kernel
theorem dL_law_791 : decode cL_law 791 = .ok (.iload_n 3, 1) := by decide +kernel
theorem dL_law_792 : decode cL_law 792 = .ok (.iconst 2, 1) := by decide +kernel
theorem dL_law_793 : decode cL_law 793 = .ok (.iadd, 1) := by decide +kernel
theorem dL_law_794 : decode cL_law 794 = .ok (.iaload, 1) := by decide +kernel
theorem dL_law_795 : decode cL_law 795 = .ok (.invokevirtual 107, 3) := by decide +kernel
theorem dL_law_798 : decode cL_law 798 = .ok (.aload_n 2, 1) := by decide +kernel
theorem dL_law_799 : decode cL_law 799 = .ok (.aload_n 0, 1) := by decide +kernel
theorem dL_law_800 : decode cL_law 800 = .ok (.iload_n 3, 1) := by decide +kernel
theorem dL_law_801 : decode cL_law 801 = .ok (.iconst 1, 1) := by decide +kernel
theorem dL_law_802 : decode cL_law 802 = .ok (.iadd, 1) := by decide +kernel
theorem dL_law_803 : decode cL_law 803 = .ok (.iaload, 1) := by decide +kernel
theorem dL_law_804 : decode cL_law 804 = .ok (.aload_n 0, 1) := by decide +kernel
theorem dL_law_805 : decode cL_law 805 = .ok (.iload_n 3, 1) := by decide +kernel
theorem dL_law_806 : decode cL_law 806 = .ok (.iconst 2, 1) := by decide +kernel
theorem dL_law_807 : decode cL_law 807 = .ok (.iadd, 1) := by decide +kernel
theorem dL_law_808 : decode cL_law 808 = .ok (.iaload, 1) := by decide +kernel
theorem dL_law_809 : decode cL_law 809 = .ok (.invokevirtual 110, 3) := by decide +kernel
theorem dL_law_812 : decode cL_law 812 = .ok (.if_icmp .eq 5, 3) := by decide +kernel
theorem dL_law_815 : decode cL_law 815 = .ok (.iconst 0, 1) := by decide +kernel
theorem dL_law_816 : decode cL_law 816 = .ok (.ireturn, 1) := by decide +kernel
theorem dL_law_817 : decode cL_law 817 = .ok (.iinc 3 4, 3) := by decide +kernel
theorem dL_law_820 : decode cL_law 820 = .ok (.goto (-802), 3) := by decide +kernel
theorem dL_law_823 : decode cL_law 823 = .ok (.iconst 1, 1) := by decide +kernel
theorem dL_law_824 : decode cL_law 824 = .ok (.ireturn, 1) := by decide +kernel
