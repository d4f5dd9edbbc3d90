def ktb_0 : List Ent := [(0, .aload_n 0, 1, 0, 0, 0, 0, 0),
  (1, .invokespecial 3, 3, 99, 0, 0, 0, 0),
  (4, .aload_n 0, 1, 0, 0, 0, 0, 0),
  (5, .bipush 6, 2, 0, 0, 0, 6, 0),
  (7, .anewarray 11, 3, 5, 0, 0, 0, 0),
  (10, .putfield 13, 3, 0, 2, 0, 0, 0),
  (13, .aload_n 0, 1, 0, 0, 0, 0, 0),
  (14, .iconst 5, 1, 0, 0, 0, 5, 0),
  (15, .newarray .int, 2, 0, 0, 0, 0, 0),
  (17, .putfield 17, 3, 0, 3, 0, 0, 0),
  (20, .aload_n 0, 1, 0, 0, 0, 0, 0),
  (21, .iconst 5, 1, 0, 0, 0, 5, 0),
  (22, .newarray .int, 2, 0, 0, 0, 0, 0),
  (24, .putfield 21, 3, 0, 4, 0, 0, 0),
  (27, .aload_n 0, 1, 0, 0, 0, 0, 0),
  (28, .iconst 5, 1, 0, 0, 0, 5, 0),
  (29, .newarray .int, 2, 0, 0, 0, 0, 0),
  (31, .putfield 24, 3, 0, 5, 0, 0, 0),
  (34, .aload_n 0, 1, 0, 0, 0, 0, 0),
  (35, .iconst 0, 1, 0, 0, 0, 0, 0),
  (36, .putfield 27, 3, 0, 6, 0, 0, 0),
  (39, .aload_n 0, 1, 0, 0, 0, 0, 0),
  (40, .iconst 0, 1, 0, 0, 0, 0, 0),
  (41, .putfield 31, 3, 0, 7, 0, 0, 0),
  (44, .aload_n 0, 1, 0, 0, 0, 0, 0),
  (45, .iconst 0, 1, 0, 0, 0, 0, 0),
  (46, .putfield 34, 3, 0, 8, 0, 0, 0),
  (49, .aload_n 0, 1, 0, 0, 0, 0, 0),
  (50, .iconst 0, 1, 0, 0, 0, 0, 0),
  (51, .putfield 37, 3, 0, 9, 0, 0, 0),
  (54, .aload_n 0, 1, 0, 0, 0, 0, 0),
  (55, .aload_n 1, 1, 0, 0, 0, 0, 0),
  (56, .putfield 40, 3, 0, 0, 0, 0, 0),
  (59, .aload_n 0, 1, 0, 0, 0, 0, 0),
  (60, .aload_n 2, 1, 0, 0, 0, 0, 0),
  (61, .putfield 44, 3, 0, 1, 0, 0, 0),
  (64, .iconst 0, 1, 0, 0, 0, 0, 0),
  (65, .istore_n 3, 1, 0, 0, 0, 0, 0),
  (66, .iload_n 3, 1, 0, 0, 0, 0, 0),
  (67, .iconst 5, 1, 0, 0, 0, 5, 0),
  (68, .if_icmp .gt 22, 3, 90, 0, 0, 0, 0),
  (71, .aload_n 0, 1, 0, 0, 0, 0, 0),
  (72, .getfield 13, 3, 0, 2, 0, 0, 0),
  (75, .iload_n 3, 1, 0, 0, 0, 0, 0),
  (76, .new 11, 3, 7, 0, 0, 0, 0),
  (79, .dup, 1, 0, 0, 0, 0, 0),
  (80, .invokespecial 48, 3, 7, 0, 0, 0, 0),
  (83, .aastore, 1, 0, 0, 0, 0, 0),
  (84, .iinc 3 1, 3, 0, 0, 0, 1, 0),
  (87, .goto (-21), 3, 66, 0, 0, 0, 0),
  (90, .return_, 1, 0, 0, 0, 0, 0)]
def ktb_1 : List Ent := [(0, .aload_n 0, 1, 0, 0, 0, 0, 0),
  (1, .invokespecial 3, 3, 99, 0, 0, 0, 0),
  (4, .aload_n 0, 1, 0, 0, 0, 0, 0),
  (5, .new 9, 3, 7, 0, 0, 0, 0),
  (8, .dup, 1, 0, 0, 0, 0, 0),
  (9, .invokespecial 11, 3, 7, 0, 0, 0, 0),
  (12, .putfield 12, 3, 1, 2, 0, 0, 0),
  (15, .aload_n 0, 1, 0, 0, 0, 0, 0),
  (16, .iconst 3, 1, 0, 0, 0, 3, 0),
  (17, .newarray .int, 2, 0, 0, 0, 0, 0),
  (19, .putfield 18, 3, 1, 3, 0, 0, 0),
  (22, .aload_n 0, 1, 0, 0, 0, 0, 0),
  (23, .iconst 3, 1, 0, 0, 0, 3, 0),
  (24, .bipush 7, 2, 0, 0, 0, 7, 0),
  (26, .multianewarray 22 2, 4, 7, 0, 0, 0, 0),
  (30, .putfield 24, 3, 1, 4, 0, 0, 0),
  (33, .aload_n 0, 1, 0, 0, 0, 0, 0),
  (34, .iconst 0, 1, 0, 0, 0, 0, 0),
  (35, .putfield 27, 3, 1, 5, 0, 0, 0),
  (38, .aload_n 0, 1, 0, 0, 0, 0, 0),
  (39, .iconst (-1), 1, 0, 0, 0, (-1), 0),
  (40, .putfield 31, 3, 1, 6, 0, 0, 0),
  (43, .aload_n 0, 1, 0, 0, 0, 0, 0),
  (44, .aload_n 1, 1, 0, 0, 0, 0, 0),
  (45, .putfield 34, 3, 1, 0, 0, 0, 0),
  (48, .aload_n 0, 1, 0, 0, 0, 0, 0),
  (49, .aload_n 2, 1, 0, 0, 0, 0, 0),
  (50, .putfield 38, 3, 1, 1, 0, 0, 0),
  (53, .return_, 1, 0, 0, 0, 0, 0)]
def ktb_2 : List Ent := [(0, .aload_n 0, 1, 0, 0, 0, 0, 0),
  (1, .invokespecial 3, 3, 99, 0, 0, 0, 0),
  (4, .aload_n 0, 1, 0, 0, 0, 0, 0),
  (5, .aconst_null, 1, 0, 0, 0, 0, 0),
  (6, .putfield 9, 3, 2, 1, 0, 0, 0),
  (9, .aload_n 0, 1, 0, 0, 0, 0, 0),
  (10, .iconst (-1), 1, 0, 0, 0, (-1), 0),
  (11, .putfield 15, 3, 2, 2, 0, 0, 0),
  (14, .aload_n 0, 1, 0, 0, 0, 0, 0),
  (15, .iconst (-1), 1, 0, 0, 0, (-1), 0),
  (16, .putfield 19, 3, 2, 3, 0, 0, 0),
  (19, .aload_n 0, 1, 0, 0, 0, 0, 0),
  (20, .iconst 0, 1, 0, 0, 0, 0, 0),
  (21, .putfield 22, 3, 2, 4, 0, 0, 0),
  (24, .aload_n 0, 1, 0, 0, 0, 0, 0),
  (25, .iconst 0, 1, 0, 0, 0, 0, 0),
  (26, .putfield 26, 3, 2, 5, 0, 0, 0),
  (29, .aload_n 0, 1, 0, 0, 0, 0, 0),
  (30, .iconst 0, 1, 0, 0, 0, 0, 0),
  (31, .putfield 29, 3, 2, 6, 0, 0, 0),
  (34, .aload_n 0, 1, 0, 0, 0, 0, 0),
  (35, .iconst 3, 1, 0, 0, 0, 3, 0),
  (36, .newarray .int, 2, 0, 0, 0, 0, 0),
  (38, .putfield 32, 3, 2, 7, 0, 0, 0),
  (41, .aload_n 0, 1, 0, 0, 0, 0, 0),
  (42, .iconst 3, 1, 0, 0, 0, 3, 0),
  (43, .newarray .boolean, 2, 2, 0, 0, 0, 0),
  (45, .putfield 36, 3, 2, 8, 0, 0, 0),
  (48, .aload_n 0, 1, 0, 0, 0, 0, 0),
  (49, .iconst 4, 1, 0, 0, 0, 4, 0),
  (50, .newarray .int, 2, 0, 0, 0, 0, 0),
  (52, .putfield 40, 3, 2, 9, 0, 0, 0),
  (55, .aload_n 0, 1, 0, 0, 0, 0, 0),
  (56, .bipush 13, 2, 0, 0, 0, 13, 0),
  (58, .newarray .long, 2, 3, 0, 0, 0, 0),
  (60, .putfield 45, 3, 2, 10, 0, 0, 0),
  (63, .aload_n 0, 1, 0, 0, 0, 0, 0),
  (64, .iconst 0, 1, 0, 0, 0, 0, 0),
  (65, .putfield 49, 3, 2, 11, 0, 0, 0),
  (68, .aload_n 0, 1, 0, 0, 0, 0, 0),
  (69, .iconst 0, 1, 0, 0, 0, 0, 0),
  (70, .putfield 52, 3, 2, 12, 0, 0, 0),
  (73, .aload_n 0, 1, 0, 0, 0, 0, 0),
  (74, .iconst 0, 1, 0, 0, 0, 0, 0),
  (75, .putfield 55, 3, 2, 13, 0, 0, 0),
  (78, .aload_n 0, 1, 0, 0, 0, 0, 0),
  (79, .aload_n 1, 1, 0, 0, 0, 0, 0),
  (80, .putfield 58, 3, 2, 0, 0, 0, 0),
  (83, .return_, 1, 0, 0, 0, 0, 0)]
def ktb_3 : List Ent := [(0, .aload_n 0, 1, 0, 0, 0, 0, 0),
  (1, .invokespecial 3, 3, 99, 0, 0, 0, 0),
  (4, .aload_n 0, 1, 0, 0, 0, 0, 0),
  (5, .iconst 0, 1, 0, 0, 0, 0, 0),
  (6, .putfield 9, 3, 3, 0, 0, 0, 0),
  (9, .aload_n 0, 1, 0, 0, 0, 0, 0),
  (10, .bipush 10, 2, 0, 0, 0, 10, 0),
  (12, .newarray .int, 2, 0, 0, 0, 0, 0),
  (14, .putfield 15, 3, 3, 1, 0, 0, 0),
  (17, .aload_n 0, 1, 0, 0, 0, 0, 0),
  (18, .bipush 10, 2, 0, 0, 0, 10, 0),
  (20, .newarray .int, 2, 0, 0, 0, 0, 0),
  (22, .putfield 19, 3, 3, 2, 0, 0, 0),
  (25, .aload_n 0, 1, 0, 0, 0, 0, 0),
  (26, .bipush 10, 2, 0, 0, 0, 10, 0),
  (28, .newarray .int, 2, 0, 0, 0, 0, 0),
  (30, .putfield 22, 3, 3, 3, 0, 0, 0),
  (33, .return_, 1, 0, 0, 0, 0, 0)]
def ktb_4 : List Ent := [(0, .aload_n 0, 1, 0, 0, 0, 0, 0),
  (1, .invokespecial 3, 3, 99, 0, 0, 0, 0),
  (4, .aload_n 0, 1, 0, 0, 0, 0, 0),
  (5, .iconst 0, 1, 0, 0, 0, 0, 0),
  (6, .putfield 9, 3, 4, 0, 0, 0, 0),
  (9, .aload_n 0, 1, 0, 0, 0, 0, 0),
  (10, .iconst 0, 1, 0, 0, 0, 0, 0),
  (11, .putfield 15, 3, 4, 1, 0, 0, 0),
  (14, .aload_n 0, 1, 0, 0, 0, 0, 0),
  (15, .iconst 0, 1, 0, 0, 0, 0, 0),
  (16, .putfield 19, 3, 4, 2, 0, 0, 0),
  (19, .aload_n 0, 1, 0, 0, 0, 0, 0),
  (20, .iconst 0, 1, 0, 0, 0, 0, 0),
  (21, .putfield 22, 3, 4, 3, 0, 0, 0),
  (24, .aload_n 0, 1, 0, 0, 0, 0, 0),
  (25, .iconst 0, 1, 0, 0, 0, 0, 0),
  (26, .putfield 25, 3, 4, 4, 0, 0, 0),
  (29, .aload_n 0, 1, 0, 0, 0, 0, 0),
  (30, .iconst 0, 1, 0, 0, 0, 0, 0),
  (31, .putfield 28, 3, 4, 5, 0, 0, 0),
  (34, .aload_n 0, 1, 0, 0, 0, 0, 0),
  (35, .iconst 3, 1, 0, 0, 0, 3, 0),
  (36, .newarray .int, 2, 0, 0, 0, 0, 0),
  (38, .putfield 31, 3, 4, 6, 0, 0, 0),
  (41, .aload_n 0, 1, 0, 0, 0, 0, 0),
  (42, .bipush 8, 2, 0, 0, 0, 8, 0),
  (44, .newarray .int, 2, 0, 0, 0, 0, 0),
  (46, .putfield 35, 3, 4, 7, 0, 0, 0),
  (49, .aload_n 0, 1, 0, 0, 0, 0, 0),
  (50, .bipush 8, 2, 0, 0, 0, 8, 0),
  (52, .newarray .int, 2, 0, 0, 0, 0, 0),
  (54, .putfield 38, 3, 4, 8, 0, 0, 0),
  (57, .aload_n 0, 1, 0, 0, 0, 0, 0),
  (58, .bipush 8, 2, 0, 0, 0, 8, 0),
  (60, .newarray .int, 2, 0, 0, 0, 0, 0),
  (62, .putfield 41, 3, 4, 9, 0, 0, 0),
  (65, .aload_n 0, 1, 0, 0, 0, 0, 0),
  (66, .bipush 8, 2, 0, 0, 0, 8, 0),
  (68, .newarray .int, 2, 0, 0, 0, 0, 0),
  (70, .putfield 44, 3, 4, 10, 0, 0, 0),
  (73, .aload_n 0, 1, 0, 0, 0, 0, 0),
  (74, .bipush 8, 2, 0, 0, 0, 8, 0),
  (76, .newarray .int, 2, 0, 0, 0, 0, 0),
  (78, .putfield 47, 3, 4, 11, 0, 0, 0),
  (81, .aload_n 0, 1, 0, 0, 0, 0, 0),
  (82, .bipush 8, 2, 0, 0, 0, 8, 0),
  (84, .newarray .int, 2, 0, 0, 0, 0, 0),
  (86, .putfield 50, 3, 4, 12, 0, 0, 0),
  (89, .aload_n 0, 1, 0, 0, 0, 0, 0),
  (90, .iconst 3, 1, 0, 0, 0, 3, 0),
  (91, .newarray .int, 2, 0, 0, 0, 0, 0),
  (93, .putfield 53, 3, 4, 13, 0, 0, 0),
  (96, .return_, 1, 0, 0, 0, 0, 0)]
def ktb_5 : List Ent := [(0, .aload_n 0, 1, 0, 0, 0, 0, 0),
  (1, .invokespecial 3, 3, 99, 0, 0, 0, 0),
  (4, .aload_n 0, 1, 0, 0, 0, 0, 0),
  (5, .sipush 400, 3, 0, 0, 0, 400, 0),
  (8, .newarray .int, 2, 0, 0, 0, 0, 0),
  (10, .putfield 11, 3, 5, 0, 0, 0, 0),
  (13, .aload_n 0, 1, 0, 0, 0, 0, 0),
  (14, .iconst 0, 1, 0, 0, 0, 0, 0),
  (15, .putfield 17, 3, 5, 1, 0, 0, 0),
  (18, .aload_n 0, 1, 0, 0, 0, 0, 0),
  (19, .iconst 0, 1, 0, 0, 0, 0, 0),
  (20, .putfield 21, 3, 5, 2, 0, 0, 0),
  (23, .aload_n 0, 1, 0, 0, 0, 0, 0),
  (24, .iconst 0, 1, 0, 0, 0, 0, 0),
  (25, .putfield 24, 3, 5, 3, 0, 0, 0),
  (28, .aload_n 0, 1, 0, 0, 0, 0, 0),
  (29, .bipush 12, 2, 0, 0, 0, 12, 0),
  (31, .newarray .int, 2, 0, 0, 0, 0, 0),
  (33, .putfield 27, 3, 5, 4, 0, 0, 0),
  (36, .aload_n 0, 1, 0, 0, 0, 0, 0),
  (37, .bipush 12, 2, 0, 0, 0, 12, 0),
  (39, .newarray .int, 2, 0, 0, 0, 0, 0),
  (41, .putfield 30, 3, 5, 5, 0, 0, 0),
  (44, .aload_n 0, 1, 0, 0, 0, 0, 0),
  (45, .bipush 12, 2, 0, 0, 0, 12, 0),
  (47, .newarray .int, 2, 0, 0, 0, 0, 0),
  (49, .putfield 33, 3, 5, 6, 0, 0, 0),
  (52, .aload_n 0, 1, 0, 0, 0, 0, 0),
  (53, .bipush 61, 2, 0, 0, 0, 61, 0),
  (55, .newarray .long, 2, 3, 0, 0, 0, 0),
  (57, .putfield 36, 3, 5, 7, 0, 0, 0),
  (60, .return_, 1, 0, 0, 0, 0, 0)]
def ktb_6 : List Ent := [(0, .aload_n 0, 1, 0, 0, 0, 0, 0),
  (1, .invokespecial 3, 3, 99, 0, 0, 0, 0),
  (4, .aload_n 0, 1, 0, 0, 0, 0, 0),
  (5, .new 9, 3, 7, 0, 0, 0, 0),
  (8, .dup, 1, 0, 0, 0, 0, 0),
  (9, .invokespecial 11, 3, 7, 0, 0, 0, 0),
  (12, .putfield 12, 3, 6, 2, 0, 0, 0),
  (15, .aload_n 0, 1, 0, 0, 0, 0, 0),
  (16, .iconst 0, 1, 0, 0, 0, 0, 0),
  (17, .putfield 18, 3, 6, 3, 0, 0, 0),
  (20, .aload_n 0, 1, 0, 0, 0, 0, 0),
  (21, .iconst 0, 1, 0, 0, 0, 0, 0),
  (22, .putfield 22, 3, 6, 4, 0, 0, 0),
  (25, .aload_n 0, 1, 0, 0, 0, 0, 0),
  (26, .aload_n 1, 1, 0, 0, 0, 0, 0),
  (27, .putfield 25, 3, 6, 0, 0, 0, 0),
  (30, .aload_n 0, 1, 0, 0, 0, 0, 0),
  (31, .aload_n 2, 1, 0, 0, 0, 0, 0),
  (32, .putfield 29, 3, 6, 1, 0, 0, 0),
  (35, .return_, 1, 0, 0, 0, 0, 0)]
def ktb_7 : List Ent := [(0, .aload_n 0, 1, 0, 0, 0, 0, 0),
  (1, .invokespecial 3, 3, 99, 0, 0, 0, 0),
  (4, .aload_n 0, 1, 0, 0, 0, 0, 0),
  (5, .iconst 0, 1, 0, 0, 0, 0, 0),
  (6, .putfield 9, 3, 7, 0, 0, 0, 0),
  (9, .aload_n 0, 1, 0, 0, 0, 0, 0),
  (10, .iconst 3, 1, 0, 0, 0, 3, 0),
  (11, .newarray .int, 2, 0, 0, 0, 0, 0),
  (13, .putfield 15, 3, 7, 1, 0, 0, 0),
  (16, .aload_n 0, 1, 0, 0, 0, 0, 0),
  (17, .iconst 3, 1, 0, 0, 0, 3, 0),
  (18, .newarray .int, 2, 0, 0, 0, 0, 0),
  (20, .putfield 19, 3, 7, 2, 0, 0, 0),
  (23, .aload_n 0, 1, 0, 0, 0, 0, 0),
  (24, .iconst 3, 1, 0, 0, 0, 3, 0),
  (25, .newarray .int, 2, 0, 0, 0, 0, 0),
  (27, .putfield 22, 3, 7, 3, 0, 0, 0),
  (30, .aload_n 0, 1, 0, 0, 0, 0, 0),
  (31, .iconst 3, 1, 0, 0, 0, 3, 0),
  (32, .newarray .int, 2, 0, 0, 0, 0, 0),
  (34, .putfield 25, 3, 7, 4, 0, 0, 0),
  (37, .aload_n 0, 1, 0, 0, 0, 0, 0),
  (38, .iconst 3, 1, 0, 0, 0, 3, 0),
  (39, .newarray .int, 2, 0, 0, 0, 0, 0),
  (41, .putfield 28, 3, 7, 5, 0, 0, 0),
  (44, .aload_n 0, 1, 0, 0, 0, 0, 0),
  (45, .bipush 8, 2, 0, 0, 0, 8, 0),
  (47, .newarray .int, 2, 0, 0, 0, 0, 0),
  (49, .putfield 31, 3, 7, 6, 0, 0, 0),
  (52, .aload_n 0, 1, 0, 0, 0, 0, 0),
  (53, .bipush 8, 2, 0, 0, 0, 8, 0),
  (55, .newarray .int, 2, 0, 0, 0, 0, 0),
  (57, .putfield 34, 3, 7, 7, 0, 0, 0),
  (60, .aload_n 0, 1, 0, 0, 0, 0, 0),
  (61, .bipush 8, 2, 0, 0, 0, 8, 0),
  (63, .newarray .int, 2, 0, 0, 0, 0, 0),
  (65, .putfield 37, 3, 7, 8, 0, 0, 0),
  (68, .aload_n 0, 1, 0, 0, 0, 0, 0),
  (69, .iconst 4, 1, 0, 0, 0, 4, 0),
  (70, .newarray .int, 2, 0, 0, 0, 0, 0),
  (72, .putfield 40, 3, 7, 9, 0, 0, 0),
  (75, .return_, 1, 0, 0, 0, 0, 0)]
def ktb_8 : List Ent := [(0, .aload_n 0, 1, 0, 0, 0, 0, 0),
  (1, .invokespecial 3, 3, 99, 0, 0, 0, 0),
  (4, .aload_n 0, 1, 0, 0, 0, 0, 0),
  (5, .sipush 400, 3, 0, 0, 0, 400, 0),
  (8, .newarray .int, 2, 0, 0, 0, 0, 0),
  (10, .putfield 11, 3, 8, 0, 0, 0, 0),
  (13, .aload_n 0, 1, 0, 0, 0, 0, 0),
  (14, .iconst 0, 1, 0, 0, 0, 0, 0),
  (15, .putfield 15, 3, 8, 1, 0, 0, 0),
  (18, .aload_n 0, 1, 0, 0, 0, 0, 0),
  (19, .iconst 0, 1, 0, 0, 0, 0, 0),
  (20, .putfield 19, 3, 8, 2, 0, 0, 0),
  (23, .aload_n 0, 1, 0, 0, 0, 0, 0),
  (24, .iconst 0, 1, 0, 0, 0, 0, 0),
  (25, .putfield 22, 3, 8, 3, 0, 0, 0),
  (28, .return_, 1, 0, 0, 0, 0, 0)]
def ktb_9 : List Ent := [(0, .aload_n 0, 1, 0, 0, 0, 0, 0),
  (1, .invokespecial 3, 3, 99, 0, 0, 0, 0),
  (4, .aload_n 0, 1, 0, 0, 0, 0, 0),
  (5, .new 9, 3, 7, 0, 0, 0, 0),
  (8, .dup, 1, 0, 0, 0, 0, 0),
  (9, .invokespecial 11, 3, 7, 0, 0, 0, 0),
  (12, .putfield 12, 3, 9, 2, 0, 0, 0),
  (15, .aload_n 0, 1, 0, 0, 0, 0, 0),
  (16, .sipush 300, 3, 0, 0, 0, 300, 0),
  (19, .newarray .boolean, 2, 2, 0, 0, 0, 0),
  (21, .putfield 18, 3, 9, 3, 0, 0, 0),
  (24, .aload_n 0, 1, 0, 0, 0, 0, 0),
  (25, .iconst 3, 1, 0, 0, 0, 3, 0),
  (26, .newarray .int, 2, 0, 0, 0, 0, 0),
  (28, .putfield 22, 3, 9, 4, 0, 0, 0),
  (31, .aload_n 0, 1, 0, 0, 0, 0, 0),
  (32, .iconst 3, 1, 0, 0, 0, 3, 0),
  (33, .newarray .int, 2, 0, 0, 0, 0, 0),
  (35, .putfield 26, 3, 9, 5, 0, 0, 0),
  (38, .aload_n 0, 1, 0, 0, 0, 0, 0),
  (39, .aload_n 1, 1, 0, 0, 0, 0, 0),
  (40, .putfield 29, 3, 9, 0, 0, 0, 0),
  (43, .aload_n 0, 1, 0, 0, 0, 0, 0),
  (44, .aload_n 2, 1, 0, 0, 0, 0, 0),
  (45, .putfield 33, 3, 9, 1, 0, 0, 0),
  (48, .return_, 1, 0, 0, 0, 0, 0)]
def ktb_10 : List Ent := [(0, .aload_n 0, 1, 0, 0, 0, 0, 0),
  (1, .invokespecial 3, 3, 99, 0, 0, 0, 0),
  (4, .aload_n 0, 1, 0, 0, 0, 0, 0),
  (5, .new 9, 3, 4, 0, 0, 0, 0),
  (8, .dup, 1, 0, 0, 0, 0, 0),
  (9, .invokespecial 11, 3, 4, 0, 0, 0, 0),
  (12, .putfield 12, 3, 10, 0, 0, 0, 0),
  (15, .aload_n 0, 1, 0, 0, 0, 0, 0),
  (16, .new 18, 3, 7, 0, 0, 0, 0),
  (19, .dup, 1, 0, 0, 0, 0, 0),
  (20, .invokespecial 20, 3, 7, 0, 0, 0, 0),
  (23, .putfield 21, 3, 10, 1, 0, 0, 0),
  (26, .aload_n 0, 1, 0, 0, 0, 0, 0),
  (27, .new 25, 3, 3, 0, 0, 0, 0),
  (30, .dup, 1, 0, 0, 0, 0, 0),
  (31, .invokespecial 27, 3, 3, 0, 0, 0, 0),
  (34, .putfield 28, 3, 10, 2, 0, 0, 0),
  (37, .aload_n 0, 1, 0, 0, 0, 0, 0),
  (38, .iconst (-1), 1, 0, 0, 0, (-1), 0),
  (39, .putfield 32, 3, 10, 3, 0, 0, 0),
  (42, .aload_n 0, 1, 0, 0, 0, 0, 0),
  (43, .iconst 0, 1, 0, 0, 0, 0, 0),
  (44, .putfield 36, 3, 10, 4, 0, 0, 0),
  (47, .return_, 1, 0, 0, 0, 0, 0)]
def ktb_11 : List Ent := [(0, .aload_n 0, 1, 0, 0, 0, 0, 0),
  (1, .invokespecial 1, 3, 99, 0, 0, 0, 0),
  (4, .aload_n 0, 1, 0, 0, 0, 0, 0),
  (5, .new 7, 3, 8, 0, 0, 0, 0),
  (8, .dup, 1, 0, 0, 0, 0, 0),
  (9, .invokespecial 9, 3, 8, 0, 0, 0, 0),
  (12, .putfield 10, 3, 11, 0, 0, 0, 0),
  (15, .aload_n 0, 1, 0, 0, 0, 0, 0),
  (16, .new 16, 3, 4, 0, 0, 0, 0),
  (19, .dup, 1, 0, 0, 0, 0, 0),
  (20, .invokespecial 18, 3, 4, 0, 0, 0, 0),
  (23, .putfield 19, 3, 11, 1, 0, 0, 0),
  (26, .aload_n 0, 1, 0, 0, 0, 0, 0),
  (27, .bipush 6, 2, 0, 0, 0, 6, 0),
  (29, .anewarray 23, 3, 4, 0, 0, 0, 0),
  (32, .putfield 25, 3, 11, 3, 0, 0, 0),
  (35, .aload_n 0, 1, 0, 0, 0, 0, 0),
  (36, .iconst 0, 1, 0, 0, 0, 0, 0),
  (37, .putfield 29, 3, 11, 4, 0, 0, 0),
  (40, .aload_n 0, 1, 0, 0, 0, 0, 0),
  (41, .bipush 20, 2, 0, 0, 0, 20, 0),
  (43, .anewarray 33, 3, 5, 0, 0, 0, 0),
  (46, .putfield 35, 3, 11, 5, 0, 0, 0),
  (49, .aload_n 0, 1, 0, 0, 0, 0, 0),
  (50, .iconst 0, 1, 0, 0, 0, 0, 0),
  (51, .putfield 39, 3, 11, 6, 0, 0, 0),
  (54, .aload_n 0, 1, 0, 0, 0, 0, 0),
  (55, .iconst 0, 1, 0, 0, 0, 0, 0),
  (56, .putfield 42, 3, 11, 7, 0, 0, 0),
  (59, .aload_n 0, 1, 0, 0, 0, 0, 0),
  (60, .iconst 4, 1, 0, 0, 0, 4, 0),
  (61, .anewarray 45, 3, 6, 0, 0, 0, 0),
  (64, .putfield 47, 3, 11, 8, 0, 0, 0),
  (67, .aload_n 0, 1, 0, 0, 0, 0, 0),
  (68, .iconst 4, 1, 0, 0, 0, 4, 0),
  (69, .newarray .boolean, 2, 2, 0, 0, 0, 0),
  (71, .putfield 51, 3, 11, 9, 0, 0, 0),
  (74, .new 45, 3, 10, 0, 0, 0, 0),
  (77, .dup, 1, 0, 0, 0, 0, 0),
  (78, .invokespecial 55, 3, 10, 0, 0, 0, 0),
  (81, .astore_n 1, 1, 0, 0, 0, 0, 0),
  (82, .new 56, 3, 2, 0, 0, 0, 0),
  (85, .dup, 1, 0, 0, 0, 0, 0),
  (86, .aload_n 1, 1, 0, 0, 0, 0, 0),
  (87, .getfield 58, 3, 10, 0, 0, 0, 0),
  (90, .invokespecial 61, 3, 2, 1, 0, 0, 0),
  (93, .astore_n 2, 1, 0, 0, 0, 0, 0),
  (94, .aload_n 0, 1, 0, 0, 0, 0, 0),
  (95, .aload_n 1, 1, 0, 0, 0, 0, 0),
  (96, .putfield 64, 3, 11, 2, 0, 0, 0),
  (99, .aload_n 0, 1, 0, 0, 0, 0, 0),
  (100, .aload_n 2, 1, 0, 0, 0, 0, 0),
  (101, .putfield 68, 3, 11, 10, 0, 0, 0),
  (104, .aload_n 0, 1, 0, 0, 0, 0, 0),
  (105, .new 72, 3, 6, 0, 0, 0, 0),
  (108, .dup, 1, 0, 0, 0, 0, 0),
  (109, .aload_n 1, 1, 0, 0, 0, 0, 0),
  (110, .getfield 58, 3, 10, 0, 0, 0, 0),
  (113, .aload_n 2, 1, 0, 0, 0, 0, 0),
  (114, .invokespecial 74, 3, 6, 2, 0, 0, 0),
  (117, .putfield 77, 3, 11, 11, 0, 0, 0),
  (120, .aload_n 0, 1, 0, 0, 0, 0, 0),
  (121, .new 81, 3, 0, 0, 0, 0, 0),
  (124, .dup, 1, 0, 0, 0, 0, 0),
  (125, .aload_n 1, 1, 0, 0, 0, 0, 0),
  (126, .getfield 58, 3, 10, 0, 0, 0, 0),
  (129, .aload_n 2, 1, 0, 0, 0, 0, 0),
  (130, .invokespecial 83, 3, 0, 2, 0, 0, 0),
  (133, .putfield 84, 3, 11, 12, 0, 0, 0),
  (136, .aload_n 0, 1, 0, 0, 0, 0, 0),
  (137, .new 88, 3, 9, 0, 0, 0, 0),
  (140, .dup, 1, 0, 0, 0, 0, 0),
  (141, .aload_n 1, 1, 0, 0, 0, 0, 0),
  (142, .getfield 58, 3, 10, 0, 0, 0, 0),
  (145, .aload_n 2, 1, 0, 0, 0, 0, 0),
  (146, .invokespecial 90, 3, 9, 2, 0, 0, 0),
  (149, .putfield 91, 3, 11, 13, 0, 0, 0),
  (152, .aload_n 0, 1, 0, 0, 0, 0, 0),
  (153, .new 95, 3, 1, 0, 0, 0, 0),
  (156, .dup, 1, 0, 0, 0, 0, 0),
  (157, .aload_n 1, 1, 0, 0, 0, 0, 0),
  (158, .getfield 58, 3, 10, 0, 0, 0, 0),
  (161, .aload_n 2, 1, 0, 0, 0, 0, 0),
  (162, .invokespecial 97, 3, 1, 2, 0, 0, 0),
  (165, .putfield 98, 3, 11, 14, 0, 0, 0),
  (168, .iconst 0, 1, 0, 0, 0, 0, 0),
  (169, .istore_n 3, 1, 0, 0, 0, 0, 0),
  (170, .iload_n 3, 1, 0, 0, 0, 0, 0),
  (171, .bipush 6, 2, 0, 0, 0, 6, 0),
  (173, .if_icmp .ge 22, 3, 195, 0, 0, 0, 0),
  (176, .aload_n 0, 1, 0, 0, 0, 0, 0),
  (177, .getfield 25, 3, 11, 3, 0, 0, 0),
  (180, .iload_n 3, 1, 0, 0, 0, 0, 0),
  (181, .new 23, 3, 5, 0, 0, 0, 0),
  (184, .dup, 1, 0, 0, 0, 0, 0),
  (185, .invokespecial 102, 3, 5, 0, 0, 0, 0),
  (188, .aastore, 1, 0, 0, 0, 0, 0),
  (189, .iinc 3 1, 3, 0, 0, 0, 1, 0),
  (192, .goto (-22), 3, 170, 0, 0, 0, 0),
  (195, .iconst 0, 1, 0, 0, 0, 0, 0),
  (196, .istore_n 3, 1, 0, 0, 0, 0, 0),
  (197, .iload_n 3, 1, 0, 0, 0, 0, 0),
  (198, .bipush 20, 2, 0, 0, 0, 20, 0),
  (200, .if_icmp .ge 22, 3, 222, 0, 0, 0, 0),
  (203, .aload_n 0, 1, 0, 0, 0, 0, 0),
  (204, .getfield 35, 3, 11, 5, 0, 0, 0),
  (207, .iload_n 3, 1, 0, 0, 0, 0, 0),
  (208, .new 33, 3, 7, 0, 0, 0, 0),
  (211, .dup, 1, 0, 0, 0, 0, 0),
  (212, .invokespecial 103, 3, 7, 0, 0, 0, 0),
  (215, .aastore, 1, 0, 0, 0, 0, 0),
  (216, .iinc 3 1, 3, 0, 0, 0, 1, 0),
  (219, .goto (-22), 3, 197, 0, 0, 0, 0),
  (222, .iconst 0, 1, 0, 0, 0, 0, 0),
  (223, .istore_n 3, 1, 0, 0, 0, 0, 0),
  (224, .iload_n 3, 1, 0, 0, 0, 0, 0),
  (225, .iconst 4, 1, 0, 0, 0, 4, 0),
  (226, .if_icmp .ge 22, 3, 248, 0, 0, 0, 0),
  (229, .aload_n 0, 1, 0, 0, 0, 0, 0),
  (230, .getfield 47, 3, 11, 8, 0, 0, 0),
  (233, .iload_n 3, 1, 0, 0, 0, 0, 0),
  (234, .new 45, 3, 10, 0, 0, 0, 0),
  (237, .dup, 1, 0, 0, 0, 0, 0),
  (238, .invokespecial 55, 3, 10, 0, 0, 0, 0),
  (241, .aastore, 1, 0, 0, 0, 0, 0),
  (242, .iinc 3 1, 3, 0, 0, 0, 1, 0),
  (245, .goto (-21), 3, 224, 0, 0, 0, 0),
  (248, .return_, 1, 0, 0, 0, 0, 0)]
def ktb_12 : List Ent := [(0, .aload_n 0, 1, 0, 0, 0, 0, 0),
  (1, .invokespecial 1, 3, 99, 0, 0, 0, 0),
  (4, .aload_n 0, 1, 0, 0, 0, 0, 0),
  (5, .sipush 400, 3, 0, 0, 0, 400, 0),
  (8, .newarray .byte, 2, 1, 0, 0, 0, 0),
  (10, .putfield 7, 3, 12, 0, 0, 0, 0),
  (13, .aload_n 0, 1, 0, 0, 0, 0, 0),
  (14, .sipush 2400, 3, 0, 0, 0, 2400, 0),
  (17, .newarray .int, 2, 0, 0, 0, 0, 0),
  (19, .putfield 13, 3, 12, 3, 0, 0, 0),
  (22, .aload_n 0, 1, 0, 0, 0, 0, 0),
  (23, .bipush 7, 2, 0, 0, 0, 7, 0),
  (25, .newarray .int, 2, 0, 0, 0, 0, 0),
  (27, .putfield 17, 3, 12, 4, 0, 0, 0),
  (30, .aload_n 0, 1, 0, 0, 0, 0, 0),
  (31, .sipush 288, 3, 0, 0, 0, 288, 0),
  (34, .newarray .int, 2, 0, 0, 0, 0, 0),
  (36, .putfield 20, 3, 12, 5, 0, 0, 0),
  (39, .aload_n 0, 1, 0, 0, 0, 0, 0),
  (40, .bipush 6, 2, 0, 0, 0, 6, 0),
  (42, .newarray .int, 2, 0, 0, 0, 0, 0),
  (44, .putfield 23, 3, 12, 6, 0, 0, 0),
  (47, .aload_n 0, 1, 0, 0, 0, 0, 0),
  (48, .bipush 101, 2, 0, 0, 0, 101, 0),
  (50, .newarray .int, 2, 0, 0, 0, 0, 0),
  (52, .putfield 26, 3, 12, 7, 0, 0, 0),
  (55, .aload_n 0, 1, 0, 0, 0, 0, 0),
  (56, .sipush 400, 3, 0, 0, 0, 400, 0),
  (59, .newarray .int, 2, 0, 0, 0, 0, 0),
  (61, .putfield 29, 3, 12, 15, 0, 0, 0),
  (64, .aload_n 0, 1, 0, 0, 0, 0, 0),
  (65, .bipush 64, 2, 0, 0, 0, 64, 0),
  (67, .newarray .long, 2, 3, 0, 0, 0, 0),
  (69, .putfield 32, 3, 12, 17, 0, 0, 0),
  (72, .aload_n 0, 1, 0, 0, 0, 0, 0),
  (73, .bipush 13, 2, 0, 0, 0, 13, 0),
  (75, .newarray .long, 2, 3, 0, 0, 0, 0),
  (77, .putfield 36, 3, 12, 19, 0, 0, 0),
  (80, .aload_n 0, 1, 0, 0, 0, 0, 0),
  (81, .sipush 132, 3, 0, 0, 0, 132, 0),
  (84, .newarray .int, 2, 0, 0, 0, 0, 0),
  (86, .putfield 39, 3, 12, 20, 0, 0, 0),
  (89, .aload_n 0, 1, 0, 0, 0, 0, 0),
  (90, .iconst (-1), 1, 0, 0, 0, (-1), 0),
  (91, .putfield 42, 3, 12, 21, 0, 0, 0),
  (94, .aload_n 0, 1, 0, 0, 0, 0, 0),
  (95, .iconst (-1), 1, 0, 0, 0, (-1), 0),
  (96, .putfield 46, 3, 12, 23, 0, 0, 0),
  (99, .aload_n 0, 1, 0, 0, 0, 0, 0),
  (100, .iconst (-1), 1, 0, 0, 0, (-1), 0),
  (101, .putfield 49, 3, 12, 24, 0, 0, 0),
  (104, .aload_n 0, 1, 0, 0, 0, 0, 0),
  (105, .iconst 3, 1, 0, 0, 0, 3, 0),
  (106, .newarray .int, 2, 0, 0, 0, 0, 0),
  (108, .putfield 52, 3, 12, 29, 0, 0, 0),
  (111, .aload_n 0, 1, 0, 0, 0, 0, 0),
  (112, .iconst 3, 1, 0, 0, 0, 3, 0),
  (113, .newarray .int, 2, 0, 0, 0, 0, 0),
  (115, .putfield 55, 3, 12, 30, 0, 0, 0),
  (118, .aload_n 0, 1, 0, 0, 0, 0, 0),
  (119, .iconst 3, 1, 0, 0, 0, 3, 0),
  (120, .newarray .int, 2, 0, 0, 0, 0, 0),
  (122, .putfield 58, 3, 12, 31, 0, 0, 0),
  (125, .aload_n 0, 1, 0, 0, 0, 0, 0),
  (126, .sipush 1960, 3, 0, 0, 0, 1960, 0),
  (129, .newarray .int, 2, 0, 0, 0, 0, 0),
  (131, .putfield 61, 3, 12, 33, 0, 0, 0),
  (134, .aload_n 0, 1, 0, 0, 0, 0, 0),
  (135, .bipush 98, 2, 0, 0, 0, 98, 0),
  (137, .newarray .int, 2, 0, 0, 0, 0, 0),
  (139, .putfield 64, 3, 12, 35, 0, 0, 0),
  (142, .aload_n 0, 1, 0, 0, 0, 0, 0),
  (143, .iconst 3, 1, 0, 0, 0, 3, 0),
  (144, .newarray .int, 2, 0, 0, 0, 0, 0),
  (146, .putfield 67, 3, 12, 36, 0, 0, 0),
  (149, .aload_n 0, 1, 0, 0, 0, 0, 0),
  (150, .iconst 3, 1, 0, 0, 0, 3, 0),
  (151, .newarray .int, 2, 0, 0, 0, 0, 0),
  (153, .putfield 70, 3, 12, 37, 0, 0, 0),
  (156, .aload_n 0, 1, 0, 0, 0, 0, 0),
  (157, .bipush 8, 2, 0, 0, 0, 8, 0),
  (159, .newarray .int, 2, 0, 0, 0, 0, 0),
  (161, .putfield 73, 3, 12, 40, 0, 0, 0),
  (164, .aload_n 0, 1, 0, 0, 0, 0, 0),
  (165, .iconst 5, 1, 0, 0, 0, 5, 0),
  (166, .newarray .int, 2, 0, 0, 0, 0, 0),
  (168, .putfield 76, 3, 12, 41, 0, 0, 0),
  (171, .aload_n 0, 1, 0, 0, 0, 0, 0),
  (172, .iconst 5, 1, 0, 0, 0, 5, 0),
  (173, .newarray .int, 2, 0, 0, 0, 0, 0),
  (175, .putfield 79, 3, 12, 42, 0, 0, 0),
  (178, .aload_n 0, 1, 0, 0, 0, 0, 0),
  (179, .bipush 7, 2, 0, 0, 0, 7, 0),
  (181, .newarray .boolean, 2, 2, 0, 0, 0, 0),
  (183, .putfield 82, 3, 12, 43, 0, 0, 0),
  (186, .aload_n 0, 1, 0, 0, 0, 0, 0),
  (187, .bipush 21, 2, 0, 0, 0, 21, 0),
  (189, .newarray .int, 2, 0, 0, 0, 0, 0),
  (191, .putfield 86, 3, 12, 44, 0, 0, 0),
  (194, .aload_n 0, 1, 0, 0, 0, 0, 0),
  (195, .sipush 528, 3, 0, 0, 0, 528, 0),
  (198, .newarray .int, 2, 0, 0, 0, 0, 0),
  (200, .putfield 89, 3, 12, 46, 0, 0, 0),
  (203, .aload_n 0, 1, 0, 0, 0, 0, 0),
  (204, .iconst 4, 1, 0, 0, 0, 4, 0),
  (205, .newarray .int, 2, 0, 0, 0, 0, 0),
  (207, .putfield 92, 3, 12, 47, 0, 0, 0),
  (210, .aload_n 0, 1, 0, 0, 0, 0, 0),
  (211, .iconst 4, 1, 0, 0, 0, 4, 0),
  (212, .newarray .int, 2, 0, 0, 0, 0, 0),
  (214, .putfield 95, 3, 12, 48, 0, 0, 0),
  (217, .aload_n 0, 1, 0, 0, 0, 0, 0),
  (218, .iconst 4, 1, 0, 0, 0, 4, 0),
  (219, .newarray .boolean, 2, 2, 0, 0, 0, 0),
  (221, .putfield 98, 3, 12, 49, 0, 0, 0),
  (224, .return_, 1, 0, 0, 0, 0, 0)]
def ktb_13 : List Ent := [(0, .new 7, 3, 11, 0, 0, 0, 0),
  (3, .dup, 1, 0, 0, 0, 0, 0),
  (4, .invokespecial 9, 3, 11, 0, 0, 0, 0),
  (7, .astore_n 1, 1, 0, 0, 0, 0, 0),
  (8, .new 10, 3, 12, 0, 0, 0, 0),
  (11, .dup, 1, 0, 0, 0, 0, 0),
  (12, .invokespecial 12, 3, 12, 0, 0, 0, 0),
  (15, .astore_n 2, 1, 0, 0, 0, 0, 0)]
def kMt : List (MethodName × ByteArray × Nat × Nat × Nat) := [(yX0_init, cX0_init, 4, 2, 2),
  (yX1_init, cX1_init, 3, 2, 2),
  (yX2_init, cX2_init, 2, 1, 1),
  (yX3_init, cX3_init, 1, 1, 0),
  (yX4_init, cX4_init, 1, 1, 0),
  (yX5_init, cX5_init, 1, 1, 0),
  (yX6_init, cX6_init, 3, 2, 2),
  (yX7_init, cX7_init, 1, 1, 0),
  (yX8_init, cX8_init, 1, 1, 0),
  (yX9_init, cX9_init, 3, 2, 2),
  (yX10_init, cX10_init, 1, 2, 0),
  (yX11_init, cX11_init, 4, 3, 0),
  (yX12_init, cX12_init, 1, 1, 0),
  (⟨RL, "law", "([I)Z"⟩, cL_law, 4, 2047, 1)]
/-! THE CONSTRUCTORS, run once and for all: the world as a list of cells in the order of their making -/
abbrev CC : Type := Nat × Nat × Nat × List Value
def cvc (E : EnvT) : Value → Value
  | .ref k => .ref (eBase E + k)
  | v => v
def cvr (E : EnvT) : Value → Option Nat
  | .ref k => some (eBase E + k)
  | _ => none
def eltC (E : EnvT) : CC → va_E
  | (0, ci, _, vs) => .inr (ci, vs.map (cvc E))
  | (1, t, n, _) => if t = 3 then .inl (eC E t, n, .inr (.inl fun _ => 0)) else .inl (eC E t, n, .inl fun _ => 0)
  | (_, t, n, vs) => .inl (eC E t, n, .inr (.inr (.inr (.inr (fun i => cvr E (vs.getD i .null))))))
def szC : CC → Nat
  | (0, ci, _, _) => nf ci
  | (_, _, n, _) => n
def szL : List CC → Nat
  | [] => 0
  | a :: t => szC a + szL t
def wsC (E : EnvT) (hp : List CC) : va_W := hp.mapIdx fun i a => (eBase E + i, eltC E a)
def RelC (E : EnvT) (hp : List CC) (H : Heap) : Prop := H.size = eBase E + hp.length ∧ va_P (eD E) vwCl (wsC E hp) H
def dfl (ci : Nat) : List Value := (List.range (nf ci)).map fun j => defaultValue (clTy ci j)
def dfB (ci : Nat) : Bool := (List.range (nf ci)).all fun j => match defaultValue (clTy ci j) with
  | .ref _ => false
  | _ => true
def okV (ty : FieldType) (v : Value) : Bool := match ty, v with
  | .int, .int _ => true
  | .boolean, .int a => decide (a = 0) || decide (a = 1)
  | .long, .long _ => true
  | .object _, .ref _ => true
  | .object _, .null => true
  | .array _, .ref _ => true
  | .array _, .null => true
  | _, _ => false
abbrev KS : Type := Nat × LVs × List AV × List CC
def kst (q : Ent) (lv : LVs) (st : List AV) (hp : List CC) : Option KS := match q with
  | (pc, i, len, x, y, _, v, _) => match i with
    | .aload_n k => match nth lv k.val with
      | some (.ref a, n) => some (pc + len, lv, (.ref a, n) :: st, hp)
      | _ => none
    | .iload_n k => match nth lv k.val with
      | some (.int a, n) => some (pc + len, lv, (.int a, n) :: st, hp)
      | _ => none
    | .iconst _ | .bipush _ | .sipush _ => some (pc + len, lv, (.int v, 0) :: st, hp)
    | .aconst_null => some (pc + len, lv, (.null, 0) :: st, hp)
    | .istore_n k => match st with
      | (.int a, _) :: st => some (pc + len, lset lv k.val (.int a, 0), st, hp)
      | _ => none
    | .astore_n k => match st with
      | (.ref a, n) :: st => some (pc + len, lset lv k.val (.ref a, n), st, hp)
      | _ => none
    | .iinc k _ => match nth lv k with
      | some (.int a, _) => some (pc + len, lset lv k (.int (a + v), 0), st, hp)
      | _ => none
    | .dup => match st with
      | (.ref a, n) :: st => some (pc + len, lv, (.ref a, n) :: (.ref a, n) :: st, hp)
      | _ => none
    | .goto _ => some (x, lv, st, hp)
    | .if_icmp k _ => match k, st with
      | .ge, (.int b, _) :: (.int a, _) :: st => if b ≤ a then some (x, lv, st, hp) else some (pc + len, lv, st, hp)
      | .gt, (.int b, _) :: (.int a, _) :: st => if b < a then some (x, lv, st, hp) else some (pc + len, lv, st, hp)
      | _, _ => none
    | .new _ => bif dfB x then some (pc + len, lv, (.ref hp.length, 0) :: st, hp ++ [(0, x, 0, dfl x)]) else none
    | .newarray _ => match st with
      | (.int n, _) :: st => if ¬ n < 0 ∧ n.toNatClampNeg ≤ 100000 then some (pc + len, lv, (.ref hp.length, 0) :: st, hp ++ [(1, x, n.toNatClampNeg, [])]) else none
      | _ => none
    | .anewarray _ => match st with
      | (.int n, _) :: st => if ¬ n < 0 ∧ n.toNatClampNeg ≤ 100000 then some (pc + len, lv, (.ref hp.length, 0) :: st, hp ++ [(2, x, n.toNatClampNeg, [])]) else none
      | _ => none
    | .multianewarray _ _ => match st with
      | (.int k, _) :: (.int n, _) :: st => if (¬ n < 0 ∧ n.toNatClampNeg ≤ 1000) ∧ (¬ k < 0 ∧ k.toNatClampNeg ≤ 1000) then some (pc + len, lv, (.ref hp.length, 0) :: st, hp ++ ((2, x, n.toNatClampNeg, (List.range n.toNatClampNeg).map fun i => .ref (hp.length + 1 + i)) :: List.replicate n.toNatClampNeg (1, 0, k.toNatClampNeg, []))) else none
      | _ => none
    | .putfield _ => match st with
      | (w, n) :: (.ref a, 0) :: st => bif Nat.beq n 0 && okV (clTy x y) w then (match hp[a]? with
        | some (0, ci, z, vs) => bif Nat.beq ci x && Nat.blt y vs.length then some (pc + len, lv, st, hp.set a (0, ci, z, vs.set y w)) else none
        | _ => none) else none
      | _ => none
    | .getfield _ => match st with
      | (.ref a, 0) :: st => match hp[a]? with
        | some (0, ci, _, vs) => bif Nat.beq ci x then (match vs[y]? with
          | some w => some (pc + len, lv, (w, 0) :: st, hp)
          | none => none) else none
        | _ => none
      | _ => none
    | .aastore => match st with
      | (.ref w, 0) :: (.int j, _) :: (.ref a, 0) :: st => match hp[a]? with
        | some (2, t, n, vs) => match hp[w]? with
          | some (0, ci, _, _) => if (¬ j < 0 ∧ j.toNatClampNeg < n) ∧ (3 < t ∧ t < 7 ∧ ci < 13 ∧ atyp t = .object (clR ci)) then some (pc + len, lv, st, hp.set a (2, t, n, (List.range n).map fun i => if i = j.toNatClampNeg then .ref w else vs.getD i .null)) else none
          | _ => none
        | _ => none
      | _ => none
    | _ => none
def kTb : Nat → List Ent := fun i => match i with
  | 0 => ktb_0
  | 1 => ktb_1
  | 2 => ktb_2
  | 3 => ktb_3
  | 4 => ktb_4
  | 5 => ktb_5
  | 6 => ktb_6
  | 7 => ktb_7
  | 8 => ktb_8
  | 9 => ktb_9
  | 10 => ktb_10
  | 11 => ktb_11
  | 12 => ktb_12
  | _ => ktb_13
def kNm (i : Nat) : MethodName := (kMt.getD i (⟨"", "", ""⟩, ⟨#[]⟩, 0, 0, 0)).1
def kCd (i : Nat) : ByteArray := (kMt.getD i (⟨"", "", ""⟩, ⟨#[]⟩, 0, 0, 0)).2.1
def kML (i : Nat) : Nat := (kMt.getD i (⟨"", "", ""⟩, ⟨#[]⟩, 0, 0, 0)).2.2.1
def kHt (i : Nat) : Nat := (kMt.getD i (⟨"", "", ""⟩, ⟨#[]⟩, 0, 0, 0)).2.2.2.1
def kNa (i : Nat) : Nat := (kMt.getD i (⟨"", "", ""⟩, ⟨#[]⟩, 0, 0, 0)).2.2.2.2
def ik : Instr → Nat
  | .return_ => 1
  | .invokespecial _ => 2
  | _ => 0
/-- 13 is the law, up to its loop -/
def cxB : Nat → Nat → Nat → LVs → List AV → List CC → Option (List CC × LVs)
  | 0, _, _, _, _, _ => none
  | f + 1, mi, pc, lv, st, hp => bif Nat.beq mi 13 && Nat.beq pc 16 then (match st with
      | [] => some (hp, lv)
      | _ => none) else
    match seek (kTb mi) pc with
    | [] => none
    | q :: _ => match ik q.2.1 with
      | 1 => match st with
          | [] => bif Nat.beq mi 13 then none else some (hp, lv)
          | _ => none
      | 2 => bif Nat.beq q.2.2.2.1 99 then (match st with
            | (.ref a, 0) :: st => bif Nat.ble (catS st) 8 then cxB f mi (q.1 + 3) lv st hp else none
            | _ => none) else (match st.drop q.2.2.2.2.1 with
            | (.ref a, 0) :: rest => bif Nat.blt q.2.2.2.1 13 && (Nat.beq (kNa q.2.2.2.1) q.2.2.2.2.1 && (Nat.ble (catS rest) 8 && (Nat.ble (kHt q.2.2.2.1 + 1) (kHt mi) && Nat.ble (entL ((.ref a, 0) :: (st.take q.2.2.2.2.1).reverse)).length (kML q.2.2.2.1)))) then (match cxB f q.2.2.2.1 0 (padL (kML q.2.2.2.1) (entL ((.ref a, 0) :: (st.take q.2.2.2.2.1).reverse))) [] hp with
              | some (hp', _) => cxB f mi (q.1 + 3) lv rest hp'
              | none => none) else none
            | _ => none)
      | _ => match kst q lv st hp with
          | some (pc', lv', st', hp') => cxB f mi pc' lv' st' hp'
          | none => none
/-- a list, cell by cell, then what is to be done with it -/
def forceL {α β : Type} : List α → (List α → β) → β
  | [], k => k []
  | a :: t, k => forceL t fun t' => k (a :: t')
theorem forceL_eq {α β : Type} : ∀ (l : List α) (k : List α → β), forceL l k = k l
  | [], _ => rfl
  | a :: t, k => forceL_eq t fun t' => k (a :: t')
def forceN {β : Type} : Nat → (Nat → β) → β
  | 0, k => k 0
  | m + 1, k => k (m + 1)
theorem forceN_eq {β : Type} : ∀ (n : Nat) (k : Nat → β), forceN n k = k n
  | 0, _ => rfl
  | _ + 1, _ => rfl
def setF {β : Type} : List CC → Nat → CC → (List CC → β) → β
  | [], _, _, k => k []
  | _ :: t, 0, x, k => k (x :: t)
  | a :: t, i + 1, x, k => setF t i x fun t' => k (a :: t')
theorem setF_eq {β : Type} : ∀ (l : List CC) (i : Nat) (x : CC) (k : List CC → β), setF l i x k = k (l.set i x)
  | [], _, _, _ => rfl
  | _ :: _, 0, _, _ => rfl
  | a :: t, i + 1, x, k => setF_eq t i x fun t' => k (a :: t')
def getR (u : Nat) (hp : List CC) (a : Nat) : Option CC := bif Nat.blt a u then hp[u - 1 - a]? else none
def kstR (q : Ent) (lv : LVs) (st : List AV) (u : Nat) (hp : List CC) : Option (Nat × LVs × List AV × Nat × List CC) := match q with
  | (pc, i, len, x, y, _, v, _) => match i with
    | .aload_n k => match nth lv k.val with
      | some (.ref a, n) => some (pc + len, lv, (.ref a, n) :: st, u, hp)
      | _ => none
    | .iload_n k => match nth lv k.val with
      | some (.int a, n) => some (pc + len, lv, (.int a, n) :: st, u, hp)
      | _ => none
    | .iconst _ | .bipush _ | .sipush _ => some (pc + len, lv, (.int v, 0) :: st, u, hp)
    | .aconst_null => some (pc + len, lv, (.null, 0) :: st, u, hp)
    | .istore_n k => match st with
      | (.int a, _) :: st => forceL (lset lv k.val (.int a, 0)) (fun lv' => some (pc + len, lv', st, u, hp))
      | _ => none
    | .astore_n k => match st with
      | (.ref a, n) :: st => forceL (lset lv k.val (.ref a, n)) (fun lv' => some (pc + len, lv', st, u, hp))
      | _ => none
    | .iinc k _ => match nth lv k with
      | some (.int a, _) => forceL (lset lv k (.int (a + v), 0)) (fun lv' => some (pc + len, lv', st, u, hp))
      | _ => none
    | .dup => match st with
      | (.ref a, n) :: st => some (pc + len, lv, (.ref a, n) :: (.ref a, n) :: st, u, hp)
      | _ => none
    | .goto _ => some (x, lv, st, u, hp)
    | .if_icmp k _ => match k, st with
      | .ge, (.int b, _) :: (.int a, _) :: st => if b ≤ a then some (x, lv, st, u, hp) else some (pc + len, lv, st, u, hp)
      | .gt, (.int b, _) :: (.int a, _) :: st => if b < a then some (x, lv, st, u, hp) else some (pc + len, lv, st, u, hp)
      | _, _ => none
    | .new _ => bif dfB x then forceL (dfl x) (fun vs => some (pc + len, lv, (.ref u, 0) :: st, u + 1, (0, x, 0, vs) :: hp)) else none
    | .newarray _ => match st with
      | (.int n, _) :: st => if ¬ n < 0 ∧ n.toNatClampNeg ≤ 100000 then some (pc + len, lv, (.ref u, 0) :: st, u + 1, (1, x, n.toNatClampNeg, []) :: hp) else none
      | _ => none
    | .anewarray _ => match st with
      | (.int n, _) :: st => if ¬ n < 0 ∧ n.toNatClampNeg ≤ 100000 then some (pc + len, lv, (.ref u, 0) :: st, u + 1, (2, x, n.toNatClampNeg, []) :: hp) else none
      | _ => none
    | .multianewarray _ _ => match st with
      | (.int k, _) :: (.int n, _) :: st => if (¬ n < 0 ∧ n.toNatClampNeg ≤ 1000) ∧ (¬ k < 0 ∧ k.toNatClampNeg ≤ 1000) then forceL ((List.range n.toNatClampNeg).map fun i => Value.ref (u + 1 + i)) (fun vs => forceL (List.replicate n.toNatClampNeg (1, 0, k.toNatClampNeg, []) ++ (2, x, n.toNatClampNeg, vs) :: hp) (fun hp' => some (pc + len, lv, (.ref u, 0) :: st, u + 1 + n.toNatClampNeg, hp'))) else none
      | _ => none
    | .putfield _ => match st with
      | (w, n) :: (.ref a, 0) :: st => bif Nat.beq n 0 && okV (clTy x y) w then (match getR u hp a with
        | some (0, ci, z, vs) => bif Nat.beq ci x && Nat.blt y vs.length then forceL (vs.set y w) (fun vs' => setF hp (u - 1 - a) (0, ci, z, vs') (fun hp' => some (pc + len, lv, st, u, hp'))) else none
        | _ => none) else none
      | _ => none
    | .getfield _ => match st with
      | (.ref a, 0) :: st => match getR u hp a with
        | some (0, ci, _, vs) => bif Nat.beq ci x then (match vs[y]? with
          | some w => some (pc + len, lv, (w, 0) :: st, u, hp)
          | none => none) else none
        | _ => none
      | _ => none
    | .aastore => match st with
      | (.ref w, 0) :: (.int j, _) :: (.ref a, 0) :: st => match getR u hp a with
        | some (2, t, n, vs) => match getR u hp w with
          | some (0, ci, _, _) => if (¬ j < 0 ∧ j.toNatClampNeg < n) ∧ (3 < t ∧ t < 7 ∧ ci < 13 ∧ atyp t = .object (clR ci)) then forceL ((List.range n).map fun i => if i = j.toNatClampNeg then Value.ref w else vs.getD i .null) (fun vs' => setF hp (u - 1 - a) (2, t, n, vs') (fun hp' => some (pc + len, lv, st, u, hp'))) else none
          | _ => none
        | _ => none
      | _ => none
    | _ => none
/-- the same, quickly -/
def cxR : Nat → Nat → Nat → LVs → List AV → Nat → List CC → Option (Nat × List CC × LVs)
  | 0, _, _, _, _, _, _ => none
  | f + 1, mi, pc, lv, st, u, hp => bif Nat.beq mi 13 && Nat.beq pc 16 then (match st with
      | [] => some (u, hp, lv)
      | _ => none) else
    match seek (kTb mi) pc with
    | [] => none
    | q :: _ => match ik q.2.1 with
      | 1 => match st with
          | [] => bif Nat.beq mi 13 then none else some (u, hp, lv)
          | _ => none
      | 2 => bif Nat.beq q.2.2.2.1 99 then (match st with
            | (.ref a, 0) :: st => bif Nat.ble (catS st) 8 then cxR f mi (q.1 + 3) lv st u hp else none
            | _ => none) else (match st.drop q.2.2.2.2.1 with
            | (.ref a, 0) :: rest => bif Nat.blt q.2.2.2.1 13 && (Nat.beq (kNa q.2.2.2.1) q.2.2.2.2.1 && (Nat.ble (catS rest) 8 && (Nat.ble (kHt q.2.2.2.1 + 1) (kHt mi) && Nat.ble (entL ((.ref a, 0) :: (st.take q.2.2.2.2.1).reverse)).length (kML q.2.2.2.1)))) then (match cxR f q.2.2.2.1 0 (padL (kML q.2.2.2.1) (entL ((.ref a, 0) :: (st.take q.2.2.2.2.1).reverse))) [] u hp with
              | some (u', hp', _) => cxR f mi (q.1 + 3) lv rest u' hp'
              | none => none) else none
            | _ => none)
      | _ => match kstR q lv st u hp with
          | some (pc', lv', st', u', hp') => forceN u' fun u' => cxR f mi pc' lv' st' u' hp'
          | none => none

def σ0 : Mem := (fun c j => if c = 16 ∧ j = 3 then -1 else if c = 40 ∧ j = 2 then -1 else if c = 40 ∧ j = 3 then -1 else if c = 135 ∧ j = 6 then -1 else if c = 387 ∧ j = 3 then -1 else if c = 411 ∧ j = 3 then -1 else if c = 435 ∧ j = 3 then -1 else if c = 459 ∧ j = 3 then -1 else if c = 483 ∧ j = 21 then -1 else if c = 483 ∧ j = 23 then -1 else if c = 483 ∧ j = 24 then -1 else 0, fun _ _ => 0, 0)
def initL : List Nat := [16, 40, 135, 387, 411, 435, 459, 483]
def chC (c : Nat) : CC → Bool
  | (0, ci, _, vs) => Nat.beq ci (kd c) && (Nat.blt ci 13 && (Nat.beq vs.length (nf ci) && (List.range (nf ci)).all fun j => match fk ci j, vs.getD j .null with
    | (0, _, _), .int v => decide (v = gI σ0 c j)
    | (1, _, _), .long v => decide (v = 0)
    | (2, d, _), .ref a => Nat.beq a (c + d)
    | (3, b, _), .ref a => Nat.beq a b
    | (4, _, _), .null => true
    | _, _ => false))
  | (1, t, n, _) => Nat.ble 100 (kd c) && (match ak (kd c) with | (t', n', _, _, _) => Nat.beq t t' && (Nat.beq n n' && (Nat.blt t 4 && decide (∀ q ∈ initL, q ≠ c))))
  | (_, t, n, vs) => Nat.ble 100 (kd c) && (match ak (kd c) with | (t', n', f, s, _) => Nat.beq t t' && (Nat.beq n n' && (Nat.blt 3 t && (Nat.blt t 8 && (Nat.beq vs.length n && (List.range n).all fun i => match vs.getD i .null with
    | .ref a => Nat.beq a (f + s * i)
    | _ => false)))))
def chAll (hp : List CC) : Bool := Nat.beq hp.length kdL.length && (List.range hp.length).all fun c => match hp[c]? with
  | some a => chC c a
  | none => false
def lvLaw : LVs := [some (.ref 0, 60), none, none, none]
theorem cx_run : (match cxR 3000 13 0 lvLaw [] 0 [] with
  | some (_, hp, lv) => forceL hp.reverse (fun hp => chAll hp && decide (szL hp ≤ 7000000)) && (match lv with
    | [some (.ref 0, 60), some (.ref 0, 0), some (.ref a, 0), none] => Nat.beq a 483
    | _ => false)
  | none => false) = true := by decide +kernel
