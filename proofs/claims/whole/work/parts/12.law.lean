def tb_230 : List Ent := [(16, .iconst 0, 1, 0, 0, 0, 0, 0),
  (17, .istore_n 3, 1, 0, 0, 0, 0, 0),
  (18, .iload_n 3, 1, 0, 0, 0, 0, 0),
  (19, .aload_n 0, 1, 0, 0, 0, 0, 0),
  (20, .arraylength, 1, 0, 0, 0, 0, 0),
  (21, .bipush 6, 2, 0, 0, 0, 6, 0),
  (23, .isub, 1, 0, 0, 0, 0, 0),
  (24, .if_icmp .gt 987, 3, 1011, 0, 0, 0, 0),
  (27, .aload_n 0, 1, 0, 0, 0, 0, 0),
  (28, .iload_n 3, 1, 0, 0, 0, 0, 0),
  (29, .iaload, 1, 0, 0, 0, 0, 0),
  (30, .bipush 31, 2, 0, 0, 0, 31, 0),
  (32, .iand, 1, 0, 0, 0, 0, 0),
  (33, .tableswitch 972 0 30 #[139, 202, 225, 238, 251, 274, 307, 340, 363, 376, 399, 422, 445, 458, 501, 524, 537, 570, 593, 616, 649, 682, 715, 758, 781, 814, 827, 850, 903, 926, 949], 139, 1005, 0, 0, 0, 0),
  (172, .aload_n 1, 1, 0, 0, 0, 0, 0),
  (173, .aload_n 0, 1, 0, 0, 0, 0, 0),
  (174, .iload_n 3, 1, 0, 0, 0, 0, 0),
  (175, .iconst 1, 1, 0, 0, 0, 1, 0),
  (176, .iadd, 1, 0, 0, 0, 0, 0),
  (177, .iaload, 1, 0, 0, 0, 0, 0),
  (178, .aload_n 0, 1, 0, 0, 0, 0, 0),
  (179, .iload_n 3, 1, 0, 0, 0, 0, 0),
  (180, .iconst 2, 1, 0, 0, 0, 2, 0),
  (181, .iadd, 1, 0, 0, 0, 0, 0),
  (182, .iaload, 1, 0, 0, 0, 0, 0),
  (183, .aload_n 0, 1, 0, 0, 0, 0, 0),
  (184, .iload_n 3, 1, 0, 0, 0, 0, 0),
  (185, .iconst 3, 1, 0, 0, 0, 3, 0),
  (186, .iadd, 1, 0, 0, 0, 0, 0),
  (187, .iaload, 1, 0, 0, 0, 0, 0),
  (188, .aload_n 0, 1, 0, 0, 0, 0, 0),
  (189, .iload_n 3, 1, 0, 0, 0, 0, 0),
  (190, .iconst 4, 1, 0, 0, 0, 4, 0),
  (191, .iadd, 1, 0, 0, 0, 0, 0),
  (192, .iaload, 1, 0, 0, 0, 0, 0),
  (193, .aload_n 0, 1, 0, 0, 0, 0, 0),
  (194, .iload_n 3, 1, 0, 0, 0, 0, 0),
  (195, .iconst 5, 1, 0, 0, 0, 5, 0),
  (196, .iadd, 1, 0, 0, 0, 0, 0),
  (197, .iaload, 1, 0, 0, 0, 0, 0),
  (198, .invokevirtual 13, 3, 73, 5, 0, 0, 0),
  (201, .aload_n 2, 1, 0, 0, 0, 0, 0),
  (202, .aload_n 0, 1, 0, 0, 0, 0, 0),
  (203, .iload_n 3, 1, 0, 0, 0, 0, 0),
  (204, .iconst 1, 1, 0, 0, 0, 1, 0),
  (205, .iadd, 1, 0, 0, 0, 0, 0),
  (206, .iaload, 1, 0, 0, 0, 0, 0),
  (207, .aload_n 0, 1, 0, 0, 0, 0, 0),
  (208, .iload_n 3, 1, 0, 0, 0, 0, 0),
  (209, .iconst 2, 1, 0, 0, 0, 2, 0),
  (210, .iadd, 1, 0, 0, 0, 0, 0),
  (211, .iaload, 1, 0, 0, 0, 0, 0),
  (212, .aload_n 0, 1, 0, 0, 0, 0, 0),
  (213, .iload_n 3, 1, 0, 0, 0, 0, 0),
  (214, .iconst 3, 1, 0, 0, 0, 3, 0),
  (215, .iadd, 1, 0, 0, 0, 0, 0),
  (216, .iaload, 1, 0, 0, 0, 0, 0),
  (217, .aload_n 0, 1, 0, 0, 0, 0, 0),
  (218, .iload_n 3, 1, 0, 0, 0, 0, 0),
  (219, .iconst 4, 1, 0, 0, 0, 4, 0),
  (220, .iadd, 1, 0, 0, 0, 0, 0),
  (221, .iaload, 1, 0, 0, 0, 0, 0),
  (222, .aload_n 0, 1, 0, 0, 0, 0, 0),
  (223, .iload_n 3, 1, 0, 0, 0, 0, 0),
  (224, .iconst 5, 1, 0, 0, 0, 5, 0),
  (225, .iadd, 1, 0, 0, 0, 0, 0),
  (226, .iaload, 1, 0, 0, 0, 0, 0),
  (227, .invokevirtual 17, 3, 114, 5, 0, 0, 0),
  (230, .if_icmp .eq 775, 3, 1005, 0, 0, 0, 0),
  (233, .iconst 0, 1, 0, 0, 0, 0, 0),
  (234, .ireturn, 1, 0, 1, 0, 0, 0),
  (235, .aload_n 1, 1, 0, 0, 0, 0, 0),
  (236, .aload_n 0, 1, 0, 0, 0, 0, 0),
  (237, .iload_n 3, 1, 0, 0, 0, 0, 0),
  (238, .iconst 1, 1, 0, 0, 0, 1, 0),
  (239, .iadd, 1, 0, 0, 0, 0, 0),
  (240, .iaload, 1, 0, 0, 0, 0, 0),
  (241, .invokevirtual 18, 3, 74, 1, 0, 0, 0),
  (244, .aload_n 2, 1, 0, 0, 0, 0, 0),
  (245, .aload_n 0, 1, 0, 0, 0, 0, 0),
  (246, .iload_n 3, 1, 0, 0, 0, 0, 0),
  (247, .iconst 1, 1, 0, 0, 0, 1, 0),
  (248, .iadd, 1, 0, 0, 0, 0, 0),
  (249, .iaload, 1, 0, 0, 0, 0, 0),
  (250, .invokevirtual 22, 3, 115, 1, 0, 0, 0),
  (253, .if_icmp .eq 752, 3, 1005, 0, 0, 0, 0),
  (256, .iconst 0, 1, 0, 0, 0, 0, 0),
  (257, .ireturn, 1, 0, 1, 0, 0, 0),
  (258, .aload_n 1, 1, 0, 0, 0, 0, 0),
  (259, .invokevirtual 23, 3, 75, 0, 0, 0, 0),
  (262, .aload_n 2, 1, 0, 0, 0, 0, 0),
  (263, .invokevirtual 27, 3, 150, 0, 0, 0, 0),
  (266, .if_icmp .eq 739, 3, 1005, 0, 0, 0, 0),
  (269, .iconst 0, 1, 0, 0, 0, 0, 0),
  (270, .ireturn, 1, 0, 1, 0, 0, 0),
  (271, .aload_n 1, 1, 0, 0, 0, 0, 0),
  (272, .invokevirtual 28, 3, 76, 0, 0, 0, 0),
  (275, .aload_n 2, 1, 0, 0, 0, 0, 0),
  (276, .invokevirtual 31, 3, 149, 0, 0, 0, 0),
  (279, .if_icmp .eq 726, 3, 1005, 0, 0, 0, 0),
  (282, .iconst 0, 1, 0, 0, 0, 0, 0),
  (283, .ireturn, 1, 0, 1, 0, 0, 0),
  (284, .aload_n 1, 1, 0, 0, 0, 0, 0),
  (285, .aload_n 0, 1, 0, 0, 0, 0, 0),
  (286, .iload_n 3, 1, 0, 0, 0, 0, 0),
  (287, .iconst 1, 1, 0, 0, 0, 1, 0),
  (288, .iadd, 1, 0, 0, 0, 0, 0),
  (289, .iaload, 1, 0, 0, 0, 0, 0),
  (290, .invokevirtual 32, 3, 77, 1, 0, 0, 0),
  (293, .aload_n 2, 1, 0, 0, 0, 0, 0),
  (294, .aload_n 0, 1, 0, 0, 0, 0, 0),
  (295, .iload_n 3, 1, 0, 0, 0, 0, 0),
  (296, .iconst 1, 1, 0, 0, 0, 1, 0),
  (297, .iadd, 1, 0, 0, 0, 0, 0),
  (298, .iaload, 1, 0, 0, 0, 0, 0),
  (299, .invokevirtual 35, 3, 166, 1, 0, 0, 0),
  (302, .if_icmp .eq 703, 3, 1005, 0, 0, 0, 0),
  (305, .iconst 0, 1, 0, 0, 0, 0, 0),
  (306, .ireturn, 1, 0, 1, 0, 0, 0),
  (307, .aload_n 1, 1, 0, 0, 0, 0, 0),
  (308, .aload_n 0, 1, 0, 0, 0, 0, 0),
  (309, .iload_n 3, 1, 0, 0, 0, 0, 0),
  (310, .iconst 1, 1, 0, 0, 0, 1, 0),
  (311, .iadd, 1, 0, 0, 0, 0, 0),
  (312, .iaload, 1, 0, 0, 0, 0, 0),
  (313, .aload_n 0, 1, 0, 0, 0, 0, 0),
  (314, .iload_n 3, 1, 0, 0, 0, 0, 0),
  (315, .iconst 2, 1, 0, 0, 0, 2, 0),
  (316, .iadd, 1, 0, 0, 0, 0, 0),
  (317, .iaload, 1, 0, 0, 0, 0, 0),
  (318, .invokevirtual 36, 3, 78, 2, 0, 0, 0),
  (321, .aload_n 2, 1, 0, 0, 0, 0, 0),
  (322, .aload_n 0, 1, 0, 0, 0, 0, 0),
  (323, .iload_n 3, 1, 0, 0, 0, 0, 0),
  (324, .iconst 1, 1, 0, 0, 0, 1, 0),
  (325, .iadd, 1, 0, 0, 0, 0, 0),
  (326, .iaload, 1, 0, 0, 0, 0, 0),
  (327, .aload_n 0, 1, 0, 0, 0, 0, 0),
  (328, .iload_n 3, 1, 0, 0, 0, 0, 0),
  (329, .iconst 2, 1, 0, 0, 0, 2, 0),
  (330, .iadd, 1, 0, 0, 0, 0, 0),
  (331, .iaload, 1, 0, 0, 0, 0, 0),
  (332, .invokevirtual 40, 3, 167, 2, 0, 0, 0),
  (335, .if_icmp .eq 670, 3, 1005, 0, 0, 0, 0),
  (338, .iconst 0, 1, 0, 0, 0, 0, 0),
  (339, .ireturn, 1, 0, 1, 0, 0, 0),
  (340, .aload_n 1, 1, 0, 0, 0, 0, 0),
  (341, .aload_n 0, 1, 0, 0, 0, 0, 0),
  (342, .iload_n 3, 1, 0, 0, 0, 0, 0),
  (343, .iconst 1, 1, 0, 0, 0, 1, 0),
  (344, .iadd, 1, 0, 0, 0, 0, 0),
  (345, .iaload, 1, 0, 0, 0, 0, 0),
  (346, .aload_n 0, 1, 0, 0, 0, 0, 0),
  (347, .iload_n 3, 1, 0, 0, 0, 0, 0),
  (348, .iconst 2, 1, 0, 0, 0, 2, 0),
  (349, .iadd, 1, 0, 0, 0, 0, 0),
  (350, .iaload, 1, 0, 0, 0, 0, 0),
  (351, .invokevirtual 41, 3, 79, 2, 0, 0, 0),
  (354, .aload_n 2, 1, 0, 0, 0, 0, 0),
  (355, .aload_n 0, 1, 0, 0, 0, 0, 0),
  (356, .iload_n 3, 1, 0, 0, 0, 0, 0),
  (357, .iconst 1, 1, 0, 0, 0, 1, 0),
  (358, .iadd, 1, 0, 0, 0, 0, 0),
  (359, .iaload, 1, 0, 0, 0, 0, 0),
  (360, .aload_n 0, 1, 0, 0, 0, 0, 0),
  (361, .iload_n 3, 1, 0, 0, 0, 0, 0),
  (362, .iconst 2, 1, 0, 0, 0, 2, 0),
  (363, .iadd, 1, 0, 0, 0, 0, 0),
  (364, .iaload, 1, 0, 0, 0, 0, 0),
  (365, .invokevirtual 44, 3, 168, 2, 0, 0, 0),
  (368, .if_icmp .eq 637, 3, 1005, 0, 0, 0, 0),
  (371, .iconst 0, 1, 0, 0, 0, 0, 0),
  (372, .ireturn, 1, 0, 1, 0, 0, 0),
  (373, .aload_n 1, 1, 0, 0, 0, 0, 0),
  (374, .aload_n 0, 1, 0, 0, 0, 0, 0),
  (375, .iload_n 3, 1, 0, 0, 0, 0, 0),
  (376, .iconst 1, 1, 0, 0, 0, 1, 0),
  (377, .iadd, 1, 0, 0, 0, 0, 0),
  (378, .iaload, 1, 0, 0, 0, 0, 0),
  (379, .invokevirtual 45, 3, 80, 1, 0, 0, 0),
  (382, .aload_n 2, 1, 0, 0, 0, 0, 0),
  (383, .aload_n 0, 1, 0, 0, 0, 0, 0),
  (384, .iload_n 3, 1, 0, 0, 0, 0, 0),
  (385, .iconst 1, 1, 0, 0, 0, 1, 0),
  (386, .iadd, 1, 0, 0, 0, 0, 0),
  (387, .iaload, 1, 0, 0, 0, 0, 0),
  (388, .invokevirtual 48, 3, 169, 1, 0, 0, 0),
  (391, .if_icmp .eq 614, 3, 1005, 0, 0, 0, 0),
  (394, .iconst 0, 1, 0, 0, 0, 0, 0),
  (395, .ireturn, 1, 0, 1, 0, 0, 0),
  (396, .aload_n 1, 1, 0, 0, 0, 0, 0),
  (397, .invokevirtual 49, 3, 82, 0, 0, 0, 0),
  (400, .aload_n 2, 1, 0, 0, 0, 0, 0),
  (401, .invokevirtual 52, 3, 183, 0, 0, 0, 0),
  (404, .if_icmp .eq 601, 3, 1005, 0, 0, 0, 0),
  (407, .iconst 0, 1, 0, 0, 0, 0, 0),
  (408, .ireturn, 1, 0, 1, 0, 0, 0),
  (409, .aload_n 1, 1, 0, 0, 0, 0, 0),
  (410, .aload_n 0, 1, 0, 0, 0, 0, 0),
  (411, .iload_n 3, 1, 0, 0, 0, 0, 0),
  (412, .iconst 1, 1, 0, 0, 0, 1, 0),
  (413, .iadd, 1, 0, 0, 0, 0, 0),
  (414, .iaload, 1, 0, 0, 0, 0, 0),
  (415, .invokevirtual 53, 3, 83, 1, 0, 0, 0),
  (418, .aload_n 2, 1, 0, 0, 0, 0, 0),
  (419, .aload_n 0, 1, 0, 0, 0, 0, 0),
  (420, .iload_n 3, 1, 0, 0, 0, 0, 0),
  (421, .iconst 1, 1, 0, 0, 0, 1, 0),
  (422, .iadd, 1, 0, 0, 0, 0, 0),
  (423, .iaload, 1, 0, 0, 0, 0, 0),
  (424, .invokevirtual 56, 3, 184, 1, 0, 0, 0),
  (427, .if_icmp .eq 578, 3, 1005, 0, 0, 0, 0),
  (430, .iconst 0, 1, 0, 0, 0, 0, 0),
  (431, .ireturn, 1, 0, 1, 0, 0, 0),
  (432, .aload_n 1, 1, 0, 0, 0, 0, 0),
  (433, .aload_n 0, 1, 0, 0, 0, 0, 0),
  (434, .iload_n 3, 1, 0, 0, 0, 0, 0),
  (435, .iconst 1, 1, 0, 0, 0, 1, 0),
  (436, .iadd, 1, 0, 0, 0, 0, 0),
  (437, .iaload, 1, 0, 0, 0, 0, 0),
  (438, .invokevirtual 57, 3, 84, 1, 0, 0, 0),
  (441, .aload_n 2, 1, 0, 0, 0, 0, 0),
  (442, .aload_n 0, 1, 0, 0, 0, 0, 0),
  (443, .iload_n 3, 1, 0, 0, 0, 0, 0),
  (444, .iconst 1, 1, 0, 0, 0, 1, 0),
  (445, .iadd, 1, 0, 0, 0, 0, 0),
  (446, .iaload, 1, 0, 0, 0, 0, 0),
  (447, .invokevirtual 60, 3, 185, 1, 0, 0, 0),
  (450, .if_icmp .eq 555, 3, 1005, 0, 0, 0, 0),
  (453, .iconst 0, 1, 0, 0, 0, 0, 0),
  (454, .ireturn, 1, 0, 1, 0, 0, 0),
  (455, .aload_n 1, 1, 0, 0, 0, 0, 0),
  (456, .aload_n 0, 1, 0, 0, 0, 0, 0),
  (457, .iload_n 3, 1, 0, 0, 0, 0, 0),
  (458, .iconst 1, 1, 0, 0, 0, 1, 0),
  (459, .iadd, 1, 0, 0, 0, 0, 0),
  (460, .iaload, 1, 0, 0, 0, 0, 0),
  (461, .invokevirtual 61, 3, 85, 1, 0, 0, 0),
  (464, .aload_n 2, 1, 0, 0, 0, 0, 0),
  (465, .aload_n 0, 1, 0, 0, 0, 0, 0),
  (466, .iload_n 3, 1, 0, 0, 0, 0, 0),
  (467, .iconst 1, 1, 0, 0, 0, 1, 0),
  (468, .iadd, 1, 0, 0, 0, 0, 0),
  (469, .iaload, 1, 0, 0, 0, 0, 0),
  (470, .invokevirtual 64, 3, 188, 1, 0, 0, 0),
  (473, .if_icmp .eq 532, 3, 1005, 0, 0, 0, 0),
  (476, .iconst 0, 1, 0, 0, 0, 0, 0),
  (477, .ireturn, 1, 0, 1, 0, 0, 0),
  (478, .aload_n 1, 1, 0, 0, 0, 0, 0),
  (479, .invokevirtual 65, 3, 86, 0, 0, 0, 0),
  (482, .aload_n 2, 1, 0, 0, 0, 0, 0),
  (483, .invokevirtual 68, 3, 182, 0, 0, 0, 0),
  (486, .if_icmp .eq 519, 3, 1005, 0, 0, 0, 0),
  (489, .iconst 0, 1, 0, 0, 0, 0, 0),
  (490, .ireturn, 1, 0, 1, 0, 0, 0),
  (491, .aload_n 1, 1, 0, 0, 0, 0, 0),
  (492, .aload_n 0, 1, 0, 0, 0, 0, 0),
  (493, .iload_n 3, 1, 0, 0, 0, 0, 0),
  (494, .iconst 1, 1, 0, 0, 0, 1, 0),
  (495, .iadd, 1, 0, 0, 0, 0, 0),
  (496, .iaload, 1, 0, 0, 0, 0, 0),
  (497, .aload_n 0, 1, 0, 0, 0, 0, 0),
  (498, .iload_n 3, 1, 0, 0, 0, 0, 0),
  (499, .iconst 2, 1, 0, 0, 0, 2, 0),
  (500, .iadd, 1, 0, 0, 0, 0, 0),
  (501, .iaload, 1, 0, 0, 0, 0, 0),
  (502, .aload_n 0, 1, 0, 0, 0, 0, 0),
  (503, .iload_n 3, 1, 0, 0, 0, 0, 0),
  (504, .iconst 3, 1, 0, 0, 0, 3, 0),
  (505, .iadd, 1, 0, 0, 0, 0, 0),
  (506, .iaload, 1, 0, 0, 0, 0, 0),
  (507, .invokevirtual 69, 3, 87, 3, 0, 0, 0),
  (510, .aload_n 2, 1, 0, 0, 0, 0, 0),
  (511, .aload_n 0, 1, 0, 0, 0, 0, 0),
  (512, .iload_n 3, 1, 0, 0, 0, 0, 0),
  (513, .iconst 1, 1, 0, 0, 0, 1, 0),
  (514, .iadd, 1, 0, 0, 0, 0, 0),
  (515, .iaload, 1, 0, 0, 0, 0, 0),
  (516, .aload_n 0, 1, 0, 0, 0, 0, 0),
  (517, .iload_n 3, 1, 0, 0, 0, 0, 0),
  (518, .iconst 2, 1, 0, 0, 0, 2, 0),
  (519, .iadd, 1, 0, 0, 0, 0, 0),
  (520, .iaload, 1, 0, 0, 0, 0, 0),
  (521, .aload_n 0, 1, 0, 0, 0, 0, 0),
  (522, .iload_n 3, 1, 0, 0, 0, 0, 0),
  (523, .iconst 3, 1, 0, 0, 0, 3, 0),
  (524, .iadd, 1, 0, 0, 0, 0, 0),
  (525, .iaload, 1, 0, 0, 0, 0, 0),
  (526, .invokevirtual 73, 3, 191, 3, 0, 0, 0),
  (529, .if_icmp .eq 476, 3, 1005, 0, 0, 0, 0),
  (532, .iconst 0, 1, 0, 0, 0, 0, 0),
  (533, .ireturn, 1, 0, 1, 0, 0, 0),
  (534, .aload_n 1, 1, 0, 0, 0, 0, 0),
  (535, .aload_n 0, 1, 0, 0, 0, 0, 0),
  (536, .iload_n 3, 1, 0, 0, 0, 0, 0),
  (537, .iconst 1, 1, 0, 0, 0, 1, 0),
  (538, .iadd, 1, 0, 0, 0, 0, 0),
  (539, .iaload, 1, 0, 0, 0, 0, 0),
  (540, .invokevirtual 74, 3, 88, 1, 0, 0, 0),
  (543, .aload_n 2, 1, 0, 0, 0, 0, 0),
  (544, .aload_n 0, 1, 0, 0, 0, 0, 0),
  (545, .iload_n 3, 1, 0, 0, 0, 0, 0),
  (546, .iconst 1, 1, 0, 0, 0, 1, 0),
  (547, .iadd, 1, 0, 0, 0, 0, 0),
  (548, .iaload, 1, 0, 0, 0, 0, 0),
  (549, .invokevirtual 77, 3, 192, 1, 0, 0, 0),
  (552, .if_icmp .eq 453, 3, 1005, 0, 0, 0, 0),
  (555, .iconst 0, 1, 0, 0, 0, 0, 0),
  (556, .ireturn, 1, 0, 1, 0, 0, 0),
  (557, .aload_n 1, 1, 0, 0, 0, 0, 0),
  (558, .invokevirtual 78, 3, 89, 0, 0, 0, 0),
  (561, .aload_n 2, 1, 0, 0, 0, 0, 0),
  (562, .invokevirtual 81, 3, 195, 0, 0, 0, 0),
  (565, .if_icmp .eq 440, 3, 1005, 0, 0, 0, 0),
  (568, .iconst 0, 1, 0, 0, 0, 0, 0),
  (569, .ireturn, 1, 0, 1, 0, 0, 0),
  (570, .aload_n 1, 1, 0, 0, 0, 0, 0),
  (571, .aload_n 0, 1, 0, 0, 0, 0, 0),
  (572, .iload_n 3, 1, 0, 0, 0, 0, 0),
  (573, .iconst 1, 1, 0, 0, 0, 1, 0),
  (574, .iadd, 1, 0, 0, 0, 0, 0),
  (575, .iaload, 1, 0, 0, 0, 0, 0),
  (576, .aload_n 0, 1, 0, 0, 0, 0, 0),
  (577, .iload_n 3, 1, 0, 0, 0, 0, 0),
  (578, .iconst 2, 1, 0, 0, 0, 2, 0),
  (579, .iadd, 1, 0, 0, 0, 0, 0),
  (580, .iaload, 1, 0, 0, 0, 0, 0),
  (581, .invokevirtual 82, 3, 90, 2, 0, 0, 0),
  (584, .aload_n 2, 1, 0, 0, 0, 0, 0),
  (585, .aload_n 0, 1, 0, 0, 0, 0, 0),
  (586, .iload_n 3, 1, 0, 0, 0, 0, 0),
  (587, .iconst 1, 1, 0, 0, 0, 1, 0),
  (588, .iadd, 1, 0, 0, 0, 0, 0),
  (589, .iaload, 1, 0, 0, 0, 0, 0),
  (590, .aload_n 0, 1, 0, 0, 0, 0, 0),
  (591, .iload_n 3, 1, 0, 0, 0, 0, 0),
  (592, .iconst 2, 1, 0, 0, 0, 2, 0),
  (593, .iadd, 1, 0, 0, 0, 0, 0),
  (594, .iaload, 1, 0, 0, 0, 0, 0),
  (595, .invokevirtual 85, 3, 199, 2, 0, 0, 0),
  (598, .if_icmp .eq 407, 3, 1005, 0, 0, 0, 0),
  (601, .iconst 0, 1, 0, 0, 0, 0, 0),
  (602, .ireturn, 1, 0, 1, 0, 0, 0),
  (603, .aload_n 1, 1, 0, 0, 0, 0, 0),
  (604, .aload_n 0, 1, 0, 0, 0, 0, 0),
  (605, .iload_n 3, 1, 0, 0, 0, 0, 0),
  (606, .iconst 1, 1, 0, 0, 0, 1, 0),
  (607, .iadd, 1, 0, 0, 0, 0, 0),
  (608, .iaload, 1, 0, 0, 0, 0, 0),
  (609, .invokevirtual 86, 3, 91, 1, 0, 0, 0),
  (612, .aload_n 2, 1, 0, 0, 0, 0, 0),
  (613, .aload_n 0, 1, 0, 0, 0, 0, 0),
  (614, .iload_n 3, 1, 0, 0, 0, 0, 0),
  (615, .iconst 1, 1, 0, 0, 0, 1, 0),
  (616, .iadd, 1, 0, 0, 0, 0, 0),
  (617, .iaload, 1, 0, 0, 0, 0, 0),
  (618, .invokevirtual 89, 3, 202, 1, 0, 0, 0),
  (621, .if_icmp .eq 384, 3, 1005, 0, 0, 0, 0),
  (624, .iconst 0, 1, 0, 0, 0, 0, 0),
  (625, .ireturn, 1, 0, 1, 0, 0, 0),
  (626, .aload_n 1, 1, 0, 0, 0, 0, 0),
  (627, .aload_n 0, 1, 0, 0, 0, 0, 0),
  (628, .iload_n 3, 1, 0, 0, 0, 0, 0),
  (629, .iconst 1, 1, 0, 0, 0, 1, 0),
  (630, .iadd, 1, 0, 0, 0, 0, 0),
  (631, .iaload, 1, 0, 0, 0, 0, 0),
  (632, .invokevirtual 90, 3, 92, 1, 0, 0, 0),
  (635, .aload_n 2, 1, 0, 0, 0, 0, 0),
  (636, .aload_n 0, 1, 0, 0, 0, 0, 0),
  (637, .iload_n 3, 1, 0, 0, 0, 0, 0),
  (638, .iconst 1, 1, 0, 0, 0, 1, 0),
  (639, .iadd, 1, 0, 0, 0, 0, 0),
  (640, .iaload, 1, 0, 0, 0, 0, 0),
  (641, .invokevirtual 93, 3, 206, 1, 0, 0, 0),
  (644, .if_icmp .eq 361, 3, 1005, 0, 0, 0, 0),
  (647, .iconst 0, 1, 0, 0, 0, 0, 0),
  (648, .ireturn, 1, 0, 1, 0, 0, 0),
  (649, .aload_n 1, 1, 0, 0, 0, 0, 0),
  (650, .aload_n 0, 1, 0, 0, 0, 0, 0),
  (651, .iload_n 3, 1, 0, 0, 0, 0, 0),
  (652, .iconst 1, 1, 0, 0, 0, 1, 0),
  (653, .iadd, 1, 0, 0, 0, 0, 0),
  (654, .iaload, 1, 0, 0, 0, 0, 0),
  (655, .aload_n 0, 1, 0, 0, 0, 0, 0),
  (656, .iload_n 3, 1, 0, 0, 0, 0, 0),
  (657, .iconst 2, 1, 0, 0, 0, 2, 0),
  (658, .iadd, 1, 0, 0, 0, 0, 0),
  (659, .iaload, 1, 0, 0, 0, 0, 0),
  (660, .invokevirtual 94, 3, 93, 2, 0, 0, 0),
  (663, .aload_n 2, 1, 0, 0, 0, 0, 0),
  (664, .aload_n 0, 1, 0, 0, 0, 0, 0),
  (665, .iload_n 3, 1, 0, 0, 0, 0, 0),
  (666, .iconst 1, 1, 0, 0, 0, 1, 0),
  (667, .iadd, 1, 0, 0, 0, 0, 0),
  (668, .iaload, 1, 0, 0, 0, 0, 0),
  (669, .aload_n 0, 1, 0, 0, 0, 0, 0),
  (670, .iload_n 3, 1, 0, 0, 0, 0, 0),
  (671, .iconst 2, 1, 0, 0, 0, 2, 0),
  (672, .iadd, 1, 0, 0, 0, 0, 0),
  (673, .iaload, 1, 0, 0, 0, 0, 0),
  (674, .invokevirtual 97, 3, 208, 2, 0, 0, 0),
  (677, .if_icmp .eq 328, 3, 1005, 0, 0, 0, 0),
  (680, .iconst 0, 1, 0, 0, 0, 0, 0),
  (681, .ireturn, 1, 0, 1, 0, 0, 0),
  (682, .aload_n 1, 1, 0, 0, 0, 0, 0),
  (683, .aload_n 0, 1, 0, 0, 0, 0, 0),
  (684, .iload_n 3, 1, 0, 0, 0, 0, 0),
  (685, .iconst 1, 1, 0, 0, 0, 1, 0),
  (686, .iadd, 1, 0, 0, 0, 0, 0),
  (687, .iaload, 1, 0, 0, 0, 0, 0),
  (688, .aload_n 0, 1, 0, 0, 0, 0, 0),
  (689, .iload_n 3, 1, 0, 0, 0, 0, 0),
  (690, .iconst 2, 1, 0, 0, 0, 2, 0),
  (691, .iadd, 1, 0, 0, 0, 0, 0),
  (692, .iaload, 1, 0, 0, 0, 0, 0),
  (693, .invokevirtual 98, 3, 94, 2, 0, 0, 0),
  (696, .aload_n 2, 1, 0, 0, 0, 0, 0),
  (697, .aload_n 0, 1, 0, 0, 0, 0, 0),
  (698, .iload_n 3, 1, 0, 0, 0, 0, 0),
  (699, .iconst 1, 1, 0, 0, 0, 1, 0),
  (700, .iadd, 1, 0, 0, 0, 0, 0),
  (701, .iaload, 1, 0, 0, 0, 0, 0),
  (702, .aload_n 0, 1, 0, 0, 0, 0, 0),
  (703, .iload_n 3, 1, 0, 0, 0, 0, 0),
  (704, .iconst 2, 1, 0, 0, 0, 2, 0),
  (705, .iadd, 1, 0, 0, 0, 0, 0),
  (706, .iaload, 1, 0, 0, 0, 0, 0),
  (707, .invokevirtual 101, 3, 209, 2, 0, 0, 0),
  (710, .if_icmp .eq 295, 3, 1005, 0, 0, 0, 0),
  (713, .iconst 0, 1, 0, 0, 0, 0, 0),
  (714, .ireturn, 1, 0, 1, 0, 0, 0),
  (715, .aload_n 1, 1, 0, 0, 0, 0, 0),
  (716, .aload_n 0, 1, 0, 0, 0, 0, 0),
  (717, .iload_n 3, 1, 0, 0, 0, 0, 0),
  (718, .iconst 1, 1, 0, 0, 0, 1, 0),
  (719, .iadd, 1, 0, 0, 0, 0, 0),
  (720, .iaload, 1, 0, 0, 0, 0, 0),
  (721, .aload_n 0, 1, 0, 0, 0, 0, 0),
  (722, .iload_n 3, 1, 0, 0, 0, 0, 0),
  (723, .iconst 2, 1, 0, 0, 0, 2, 0),
  (724, .iadd, 1, 0, 0, 0, 0, 0),
  (725, .iaload, 1, 0, 0, 0, 0, 0),
  (726, .invokevirtual 102, 3, 95, 2, 0, 0, 0),
  (729, .aload_n 2, 1, 0, 0, 0, 0, 0),
  (730, .aload_n 0, 1, 0, 0, 0, 0, 0),
  (731, .iload_n 3, 1, 0, 0, 0, 0, 0),
  (732, .iconst 1, 1, 0, 0, 0, 1, 0),
  (733, .iadd, 1, 0, 0, 0, 0, 0),
  (734, .iaload, 1, 0, 0, 0, 0, 0),
  (735, .aload_n 0, 1, 0, 0, 0, 0, 0),
  (736, .iload_n 3, 1, 0, 0, 0, 0, 0),
  (737, .iconst 2, 1, 0, 0, 0, 2, 0),
  (738, .iadd, 1, 0, 0, 0, 0, 0),
  (739, .iaload, 1, 0, 0, 0, 0, 0),
  (740, .invokevirtual 105, 3, 213, 2, 0, 0, 0),
  (743, .if_icmp .eq 262, 3, 1005, 0, 0, 0, 0),
  (746, .iconst 0, 1, 0, 0, 0, 0, 0),
  (747, .ireturn, 1, 0, 1, 0, 0, 0),
  (748, .aload_n 1, 1, 0, 0, 0, 0, 0),
  (749, .aload_n 0, 1, 0, 0, 0, 0, 0),
  (750, .iload_n 3, 1, 0, 0, 0, 0, 0),
  (751, .iconst 1, 1, 0, 0, 0, 1, 0),
  (752, .iadd, 1, 0, 0, 0, 0, 0),
  (753, .iaload, 1, 0, 0, 0, 0, 0),
  (754, .aload_n 0, 1, 0, 0, 0, 0, 0),
  (755, .iload_n 3, 1, 0, 0, 0, 0, 0),
  (756, .iconst 2, 1, 0, 0, 0, 2, 0),
  (757, .iadd, 1, 0, 0, 0, 0, 0),
  (758, .iaload, 1, 0, 0, 0, 0, 0),
  (759, .aload_n 0, 1, 0, 0, 0, 0, 0),
  (760, .iload_n 3, 1, 0, 0, 0, 0, 0),
  (761, .iconst 3, 1, 0, 0, 0, 3, 0),
  (762, .iadd, 1, 0, 0, 0, 0, 0),
  (763, .iaload, 1, 0, 0, 0, 0, 0),
  (764, .invokevirtual 106, 3, 99, 3, 0, 0, 0),
  (767, .aload_n 2, 1, 0, 0, 0, 0, 0),
  (768, .aload_n 0, 1, 0, 0, 0, 0, 0),
  (769, .iload_n 3, 1, 0, 0, 0, 0, 0),
  (770, .iconst 1, 1, 0, 0, 0, 1, 0),
  (771, .iadd, 1, 0, 0, 0, 0, 0),
  (772, .iaload, 1, 0, 0, 0, 0, 0),
  (773, .aload_n 0, 1, 0, 0, 0, 0, 0),
  (774, .iload_n 3, 1, 0, 0, 0, 0, 0),
  (775, .iconst 2, 1, 0, 0, 0, 2, 0),
  (776, .iadd, 1, 0, 0, 0, 0, 0),
  (777, .iaload, 1, 0, 0, 0, 0, 0),
  (778, .aload_n 0, 1, 0, 0, 0, 0, 0),
  (779, .iload_n 3, 1, 0, 0, 0, 0, 0),
  (780, .iconst 3, 1, 0, 0, 0, 3, 0),
  (781, .iadd, 1, 0, 0, 0, 0, 0),
  (782, .iaload, 1, 0, 0, 0, 0, 0),
  (783, .invokevirtual 109, 3, 214, 3, 0, 0, 0),
  (786, .if_icmp .eq 219, 3, 1005, 0, 0, 0, 0),
  (789, .iconst 0, 1, 0, 0, 0, 0, 0),
  (790, .ireturn, 1, 0, 1, 0, 0, 0),
  (791, .aload_n 1, 1, 0, 0, 0, 0, 0),
  (792, .aload_n 0, 1, 0, 0, 0, 0, 0),
  (793, .iload_n 3, 1, 0, 0, 0, 0, 0),
  (794, .iconst 1, 1, 0, 0, 0, 1, 0),
  (795, .iadd, 1, 0, 0, 0, 0, 0),
  (796, .iaload, 1, 0, 0, 0, 0, 0),
  (797, .invokevirtual 110, 3, 100, 1, 0, 0, 0),
  (800, .aload_n 2, 1, 0, 0, 0, 0, 0),
  (801, .aload_n 0, 1, 0, 0, 0, 0, 0),
  (802, .iload_n 3, 1, 0, 0, 0, 0, 0),
  (803, .iconst 1, 1, 0, 0, 0, 1, 0),
  (804, .iadd, 1, 0, 0, 0, 0, 0),
  (805, .iaload, 1, 0, 0, 0, 0, 0),
  (806, .invokevirtual 113, 3, 218, 1, 0, 0, 0),
  (809, .if_icmp .eq 196, 3, 1005, 0, 0, 0, 0),
  (812, .iconst 0, 1, 0, 0, 0, 0, 0),
  (813, .ireturn, 1, 0, 1, 0, 0, 0),
  (814, .aload_n 1, 1, 0, 0, 0, 0, 0),
  (815, .aload_n 0, 1, 0, 0, 0, 0, 0),
  (816, .iload_n 3, 1, 0, 0, 0, 0, 0),
  (817, .iconst 1, 1, 0, 0, 0, 1, 0),
  (818, .iadd, 1, 0, 0, 0, 0, 0),
  (819, .iaload, 1, 0, 0, 0, 0, 0),
  (820, .aload_n 0, 1, 0, 0, 0, 0, 0),
  (821, .iload_n 3, 1, 0, 0, 0, 0, 0),
  (822, .iconst 2, 1, 0, 0, 0, 2, 0),
  (823, .iadd, 1, 0, 0, 0, 0, 0),
  (824, .iaload, 1, 0, 0, 0, 0, 0),
  (825, .invokevirtual 114, 3, 101, 2, 0, 0, 0),
  (828, .aload_n 2, 1, 0, 0, 0, 0, 0),
  (829, .aload_n 0, 1, 0, 0, 0, 0, 0),
  (830, .iload_n 3, 1, 0, 0, 0, 0, 0),
  (831, .iconst 1, 1, 0, 0, 0, 1, 0),
  (832, .iadd, 1, 0, 0, 0, 0, 0),
  (833, .iaload, 1, 0, 0, 0, 0, 0),
  (834, .aload_n 0, 1, 0, 0, 0, 0, 0),
  (835, .iload_n 3, 1, 0, 0, 0, 0, 0),
  (836, .iconst 2, 1, 0, 0, 0, 2, 0),
  (837, .iadd, 1, 0, 0, 0, 0, 0),
  (838, .iaload, 1, 0, 0, 0, 0, 0),
  (839, .invokevirtual 117, 3, 220, 2, 0, 0, 0),
  (842, .if_icmp .eq 163, 3, 1005, 0, 0, 0, 0),
  (845, .iconst 0, 1, 0, 0, 0, 0, 0),
  (846, .ireturn, 1, 0, 1, 0, 0, 0),
  (847, .aload_n 1, 1, 0, 0, 0, 0, 0),
  (848, .invokevirtual 118, 3, 96, 0, 0, 0, 0),
  (851, .aload_n 2, 1, 0, 0, 0, 0, 0),
  (852, .invokevirtual 121, 3, 221, 0, 0, 0, 0),
  (855, .if_icmp .eq 150, 3, 1005, 0, 0, 0, 0),
  (858, .iconst 0, 1, 0, 0, 0, 0, 0),
  (859, .ireturn, 1, 0, 1, 0, 0, 0),
  (860, .aload_n 1, 1, 0, 0, 0, 0, 0),
  (861, .aload_n 0, 1, 0, 0, 0, 0, 0),
  (862, .iload_n 3, 1, 0, 0, 0, 0, 0),
  (863, .iconst 1, 1, 0, 0, 0, 1, 0),
  (864, .iadd, 1, 0, 0, 0, 0, 0),
  (865, .iaload, 1, 0, 0, 0, 0, 0),
  (866, .invokevirtual 122, 3, 97, 1, 0, 0, 0),
  (869, .aload_n 2, 1, 0, 0, 0, 0, 0),
  (870, .aload_n 0, 1, 0, 0, 0, 0, 0),
  (871, .iload_n 3, 1, 0, 0, 0, 0, 0),
  (872, .iconst 1, 1, 0, 0, 0, 1, 0),
  (873, .iadd, 1, 0, 0, 0, 0, 0),
  (874, .iaload, 1, 0, 0, 0, 0, 0),
  (875, .invokevirtual 125, 3, 222, 1, 0, 0, 0),
  (878, .if_icmp .eq 127, 3, 1005, 0, 0, 0, 0),
  (881, .iconst 0, 1, 0, 0, 0, 0, 0),
  (882, .ireturn, 1, 0, 1, 0, 0, 0),
  (883, .aload_n 1, 1, 0, 0, 0, 0, 0),
  (884, .aload_n 0, 1, 0, 0, 0, 0, 0),
  (885, .iload_n 3, 1, 0, 0, 0, 0, 0),
  (886, .iconst 1, 1, 0, 0, 0, 1, 0),
  (887, .iadd, 1, 0, 0, 0, 0, 0),
  (888, .iaload, 1, 0, 0, 0, 0, 0),
  (889, .aload_n 0, 1, 0, 0, 0, 0, 0),
  (890, .iload_n 3, 1, 0, 0, 0, 0, 0),
  (891, .iconst 2, 1, 0, 0, 0, 2, 0),
  (892, .iadd, 1, 0, 0, 0, 0, 0),
  (893, .iaload, 1, 0, 0, 0, 0, 0),
  (894, .aload_n 0, 1, 0, 0, 0, 0, 0),
  (895, .iload_n 3, 1, 0, 0, 0, 0, 0),
  (896, .iconst 3, 1, 0, 0, 0, 3, 0),
  (897, .iadd, 1, 0, 0, 0, 0, 0),
  (898, .iaload, 1, 0, 0, 0, 0, 0),
  (899, .aload_n 0, 1, 0, 0, 0, 0, 0),
  (900, .iload_n 3, 1, 0, 0, 0, 0, 0),
  (901, .iconst 4, 1, 0, 0, 0, 4, 0),
  (902, .iadd, 1, 0, 0, 0, 0, 0),
  (903, .iaload, 1, 0, 0, 0, 0, 0),
  (904, .invokevirtual 126, 3, 98, 4, 0, 0, 0),
  (907, .aload_n 2, 1, 0, 0, 0, 0, 0),
  (908, .aload_n 0, 1, 0, 0, 0, 0, 0),
  (909, .iload_n 3, 1, 0, 0, 0, 0, 0),
  (910, .iconst 1, 1, 0, 0, 0, 1, 0),
  (911, .iadd, 1, 0, 0, 0, 0, 0),
  (912, .iaload, 1, 0, 0, 0, 0, 0),
  (913, .aload_n 0, 1, 0, 0, 0, 0, 0),
  (914, .iload_n 3, 1, 0, 0, 0, 0, 0),
  (915, .iconst 2, 1, 0, 0, 0, 2, 0),
  (916, .iadd, 1, 0, 0, 0, 0, 0),
  (917, .iaload, 1, 0, 0, 0, 0, 0),
  (918, .aload_n 0, 1, 0, 0, 0, 0, 0),
  (919, .iload_n 3, 1, 0, 0, 0, 0, 0),
  (920, .iconst 3, 1, 0, 0, 0, 3, 0),
  (921, .iadd, 1, 0, 0, 0, 0, 0),
  (922, .iaload, 1, 0, 0, 0, 0, 0),
  (923, .aload_n 0, 1, 0, 0, 0, 0, 0),
  (924, .iload_n 3, 1, 0, 0, 0, 0, 0),
  (925, .iconst 4, 1, 0, 0, 0, 4, 0),
  (926, .iadd, 1, 0, 0, 0, 0, 0),
  (927, .iaload, 1, 0, 0, 0, 0, 0),
  (928, .invokevirtual 130, 3, 225, 4, 0, 0, 0),
  (931, .if_icmp .eq 74, 3, 1005, 0, 0, 0, 0),
  (934, .iconst 0, 1, 0, 0, 0, 0, 0),
  (935, .ireturn, 1, 0, 1, 0, 0, 0),
  (936, .aload_n 1, 1, 0, 0, 0, 0, 0),
  (937, .aload_n 0, 1, 0, 0, 0, 0, 0),
  (938, .iload_n 3, 1, 0, 0, 0, 0, 0),
  (939, .iconst 1, 1, 0, 0, 0, 1, 0),
  (940, .iadd, 1, 0, 0, 0, 0, 0),
  (941, .iaload, 1, 0, 0, 0, 0, 0),
  (942, .invokevirtual 131, 3, 81, 1, 0, 0, 0),
  (945, .aload_n 2, 1, 0, 0, 0, 0, 0),
  (946, .aload_n 0, 1, 0, 0, 0, 0, 0),
  (947, .iload_n 3, 1, 0, 0, 0, 0, 0),
  (948, .iconst 1, 1, 0, 0, 0, 1, 0),
  (949, .iadd, 1, 0, 0, 0, 0, 0),
  (950, .iaload, 1, 0, 0, 0, 0, 0),
  (951, .invokevirtual 134, 3, 226, 1, 0, 0, 0),
  (954, .if_icmp .eq 51, 3, 1005, 0, 0, 0, 0),
  (957, .iconst 0, 1, 0, 0, 0, 0, 0),
  (958, .ireturn, 1, 0, 1, 0, 0, 0),
  (959, .aload_n 1, 1, 0, 0, 0, 0, 0),
  (960, .aload_n 0, 1, 0, 0, 0, 0, 0),
  (961, .iload_n 3, 1, 0, 0, 0, 0, 0),
  (962, .iconst 1, 1, 0, 0, 0, 1, 0),
  (963, .iadd, 1, 0, 0, 0, 0, 0),
  (964, .iaload, 1, 0, 0, 0, 0, 0),
  (965, .invokevirtual 135, 3, 102, 1, 0, 0, 0),
  (968, .aload_n 2, 1, 0, 0, 0, 0, 0),
  (969, .aload_n 0, 1, 0, 0, 0, 0, 0),
  (970, .iload_n 3, 1, 0, 0, 0, 0, 0),
  (971, .iconst 1, 1, 0, 0, 0, 1, 0),
  (972, .iadd, 1, 0, 0, 0, 0, 0),
  (973, .iaload, 1, 0, 0, 0, 0, 0),
  (974, .invokevirtual 138, 3, 227, 1, 0, 0, 0),
  (977, .if_icmp .eq 28, 3, 1005, 0, 0, 0, 0),
  (980, .iconst 0, 1, 0, 0, 0, 0, 0),
  (981, .ireturn, 1, 0, 1, 0, 0, 0),
  (982, .aload_n 1, 1, 0, 0, 0, 0, 0),
  (983, .aload_n 0, 1, 0, 0, 0, 0, 0),
  (984, .iload_n 3, 1, 0, 0, 0, 0, 0),
  (985, .iconst 1, 1, 0, 0, 0, 1, 0),
  (986, .iadd, 1, 0, 0, 0, 0, 0),
  (987, .iaload, 1, 0, 0, 0, 0, 0),
  (988, .invokevirtual 139, 3, 103, 1, 0, 0, 0),
  (991, .aload_n 2, 1, 0, 0, 0, 0, 0),
  (992, .aload_n 0, 1, 0, 0, 0, 0, 0),
  (993, .iload_n 3, 1, 0, 0, 0, 0, 0),
  (994, .iconst 1, 1, 0, 0, 0, 1, 0),
  (995, .iadd, 1, 0, 0, 0, 0, 0),
  (996, .iaload, 1, 0, 0, 0, 0, 0),
  (997, .invokevirtual 142, 3, 228, 1, 0, 0, 0),
  (1000, .if_icmp .eq 5, 3, 1005, 0, 0, 0, 0),
  (1003, .iconst 0, 1, 0, 0, 0, 0, 0),
  (1004, .ireturn, 1, 0, 1, 0, 0, 0),
  (1005, .iinc 3 6, 3, 0, 0, 0, 6, 0),
  (1008, .goto (-990), 3, 18, 0, 0, 0, 0),
  (1011, .iconst 1, 1, 0, 0, 0, 1, 0),
  (1012, .ireturn, 1, 0, 1, 0, 0, 0)]
theorem tbok_230_0 : ((tb_230.drop 0).take 40).all (fun q => decide (decode (mCd 230) q.1 = .ok (q.2.1, q.2.2.1)) && okB 230 q) = true := by decide +kernel
theorem tbok_230_40 : ((tb_230.drop 40).take 40).all (fun q => decide (decode (mCd 230) q.1 = .ok (q.2.1, q.2.2.1)) && okB 230 q) = true := by decide +kernel
theorem tbok_230_80 : ((tb_230.drop 80).take 40).all (fun q => decide (decode (mCd 230) q.1 = .ok (q.2.1, q.2.2.1)) && okB 230 q) = true := by decide +kernel
theorem tbok_230_120 : ((tb_230.drop 120).take 40).all (fun q => decide (decode (mCd 230) q.1 = .ok (q.2.1, q.2.2.1)) && okB 230 q) = true := by decide +kernel
theorem tbok_230_160 : ((tb_230.drop 160).take 40).all (fun q => decide (decode (mCd 230) q.1 = .ok (q.2.1, q.2.2.1)) && okB 230 q) = true := by decide +kernel
theorem tbok_230_200 : ((tb_230.drop 200).take 40).all (fun q => decide (decode (mCd 230) q.1 = .ok (q.2.1, q.2.2.1)) && okB 230 q) = true := by decide +kernel
theorem tbok_230_240 : ((tb_230.drop 240).take 40).all (fun q => decide (decode (mCd 230) q.1 = .ok (q.2.1, q.2.2.1)) && okB 230 q) = true := by decide +kernel
theorem tbok_230_280 : ((tb_230.drop 280).take 40).all (fun q => decide (decode (mCd 230) q.1 = .ok (q.2.1, q.2.2.1)) && okB 230 q) = true := by decide +kernel
theorem tbok_230_320 : ((tb_230.drop 320).take 40).all (fun q => decide (decode (mCd 230) q.1 = .ok (q.2.1, q.2.2.1)) && okB 230 q) = true := by decide +kernel
theorem tbok_230_360 : ((tb_230.drop 360).take 40).all (fun q => decide (decode (mCd 230) q.1 = .ok (q.2.1, q.2.2.1)) && okB 230 q) = true := by decide +kernel
theorem tbok_230_400 : ((tb_230.drop 400).take 40).all (fun q => decide (decode (mCd 230) q.1 = .ok (q.2.1, q.2.2.1)) && okB 230 q) = true := by decide +kernel
theorem tbok_230_440 : ((tb_230.drop 440).take 40).all (fun q => decide (decode (mCd 230) q.1 = .ok (q.2.1, q.2.2.1)) && okB 230 q) = true := by decide +kernel
theorem tbok_230_480 : ((tb_230.drop 480).take 40).all (fun q => decide (decode (mCd 230) q.1 = .ok (q.2.1, q.2.2.1)) && okB 230 q) = true := by decide +kernel
theorem tbok_230_520 : ((tb_230.drop 520).take 40).all (fun q => decide (decode (mCd 230) q.1 = .ok (q.2.1, q.2.2.1)) && okB 230 q) = true := by decide +kernel
theorem tbok_230_560 : ((tb_230.drop 560).take 40).all (fun q => decide (decode (mCd 230) q.1 = .ok (q.2.1, q.2.2.1)) && okB 230 q) = true := by decide +kernel
theorem tbok_230_600 : ((tb_230.drop 600).take 40).all (fun q => decide (decode (mCd 230) q.1 = .ok (q.2.1, q.2.2.1)) && okB 230 q) = true := by decide +kernel
theorem tbok_230_640 : ((tb_230.drop 640).take 40).all (fun q => decide (decode (mCd 230) q.1 = .ok (q.2.1, q.2.2.1)) && okB 230 q) = true := by decide +kernel
theorem tb_cut {f : Ent → Bool} {l : List Ent} {a : Nat} (h1 : ((l.drop a).take 40).all f = true) (h2 : ∀ q ∈ l.drop (a + 40), f q = true) : ∀ q ∈ l.drop a, f q = true := by
  intro q hq
  rw [← List.take_append_drop 40 (l.drop a), List.drop_drop] at hq
  rcases List.mem_append.mp hq with z | z
  · exact List.all_eq_true.mp h1 q z
  · exact h2 q z
set_option maxRecDepth 100000 in
theorem tbok_230 : TbOk 230 tb_230 := by
  have h : ∀ q ∈ tb_230.drop 0, (fun q => decide (decode (mCd 230) q.1 = .ok (q.2.1, q.2.2.1)) && okB 230 q) q = true := (tb_cut tbok_230_0 (tb_cut tbok_230_40 (tb_cut tbok_230_80 (tb_cut tbok_230_120 (tb_cut tbok_230_160 (tb_cut tbok_230_200 (tb_cut tbok_230_240 (tb_cut tbok_230_280 (tb_cut tbok_230_320 (tb_cut tbok_230_360 (tb_cut tbok_230_400 (tb_cut tbok_230_440 (tb_cut tbok_230_480 (tb_cut tbok_230_520 (tb_cut tbok_230_560 (tb_cut tbok_230_600 (tb_cut tbok_230_640 (fun q hq => absurd hq (by rw [show tb_230.drop 680 = [] from rfl]; exact List.not_mem_nil)))))))))))))))))))
  intro q hq
  have := h q hq
  simp only [Bool.and_eq_true, decide_eq_true_eq] at this
  exact this
set_option maxHeartbeats 4000000 in
set_option maxRecDepth 20000 in
theorem wLaw_18 {E : EnvT} {G : GT} {RP : Option AV → Mem → Prop} (hG : Cl E 230 2047 tb_230 G RP) {r : Int32 × Mem} (hRP : RP (some (.int r.1, 0)) r.2) (F : Nat) : ∀ (n : Nat) (x3 : Int32) (σ : Mem), mLaw_18 F (eL E) (eX E) n x3 σ = some r → G 18 [some (.ref 0, 60), some (.ref 0, 11), some (.ref 483, 12), some (.int x3, 0)] [] σ := by
  intro n
  induction n with
  | zero => intro x3 σ h; unfold mLaw_18 at h; cases h
  | succ n ih =>
    intro x3 σ h
    refine bk hG (cut := [18]) 400 ?_
    unfold mLaw_18 at h
    refine And.intro (fun hq => ?_) (fun hq => ?_)
    · have h := i_pos hq h
      have e := Option.some.inj h
      subst e
      exact And.intro (Or.inr rfl) hRP
    · have h := i_neg hq h
      have ⟨hg, h⟩ := g_gd h
      refine And.intro (inB_of hg) ?_
      refine And.intro (fun hq => ?_) (fun hq => ?_)
      · have h := i_pos hq h
        have ⟨hg, h⟩ := g_gd h
        refine And.intro (inB_of hg) ?_
        have ⟨hg, h⟩ := g_gd h
        refine And.intro (inB_of hg) ?_
        have ⟨hg, h⟩ := g_gd h
        refine And.intro (inB_of hg) ?_
        have ⟨hg, h⟩ := g_gd h
        refine And.intro (inB_of hg) ?_
        have ⟨hg, h⟩ := g_gd h
        refine And.intro (inB_of hg) ?_
        have ⟨_, hc, h⟩ := b_some h
        refine Exists.intro _ (Exists.intro _ (Exists.intro _ (And.intro (c11_feed F _ _ _ _ _ _ hc) (And.intro (by decide) (And.intro (fun q => absurd q (by decide)) ?_)))))
        have ⟨hg, h⟩ := g_gd h
        refine And.intro (inB_of hg) ?_
        have ⟨hg, h⟩ := g_gd h
        refine And.intro (inB_of hg) ?_
        have ⟨hg, h⟩ := g_gd h
        refine And.intro (inB_of hg) ?_
        have ⟨hg, h⟩ := g_gd h
        refine And.intro (inB_of hg) ?_
        have ⟨hg, h⟩ := g_gd h
        refine And.intro (inB_of hg) ?_
        have ⟨_, hc, h⟩ := b_some h
        refine Exists.intro _ (Exists.intro _ (Exists.intro _ (And.intro (c12_feed F _ _ _ _ _ _ hc) (And.intro (by decide) (And.intro (fun q => absurd q (by decide)) ?_)))))
        refine And.intro (fun hq => ?_) (fun hq => ?_)
        · have h := i_pos hq h
          exact ih _ _ h
        · have h := i_neg hq h
          have e := Option.some.inj h
          subst e
          exact And.intro (Or.inl rfl) hRP
      have h := i_neg hq h
      refine And.intro (fun hq => ?_) (fun hq => ?_)
      · have h := i_pos hq h
        have ⟨hg, h⟩ := g_gd h
        refine And.intro (inB_of hg) ?_
        have ⟨_, hc, h⟩ := b_some h
        refine Exists.intro _ (Exists.intro _ (Exists.intro _ (And.intro (c11_end F _ _ hc) (And.intro (by decide) (And.intro (fun q => absurd q (by decide)) ?_)))))
        have ⟨hg, h⟩ := g_gd h
        refine And.intro (inB_of hg) ?_
        have ⟨_, hc, h⟩ := b_some h
        refine Exists.intro _ (Exists.intro _ (Exists.intro _ (And.intro (c12_end F _ _ hc) (And.intro (by decide) (And.intro (fun q => absurd q (by decide)) ?_)))))
        refine And.intro (fun hq => ?_) (fun hq => ?_)
        · have h := i_pos hq h
          exact ih _ _ h
        · have h := i_neg hq h
          have e := Option.some.inj h
          subst e
          exact And.intro (Or.inl rfl) hRP
      have h := i_neg hq h
      refine And.intro (fun hq => ?_) (fun hq => ?_)
      · have h := i_pos hq h
        have ⟨_, hc, h⟩ := b_some h
        refine Exists.intro _ (Exists.intro _ (Exists.intro _ (And.intro (c11_smithy F _ hc) (And.intro (by decide) (And.intro (fun q => absurd q (by decide)) ?_)))))
        have ⟨_, hc, h⟩ := b_some h
        refine Exists.intro _ (Exists.intro _ (Exists.intro _ (And.intro (c12_smithy F _ hc) (And.intro (by decide) (And.intro (fun q => absurd q (by decide)) ?_)))))
        refine And.intro (fun hq => ?_) (fun hq => ?_)
        · have h := i_pos hq h
          exact ih _ _ h
        · have h := i_neg hq h
          have e := Option.some.inj h
          subst e
          exact And.intro (Or.inl rfl) hRP
      have h := i_neg hq h
      refine And.intro (fun hq => ?_) (fun hq => ?_)
      · have h := i_pos hq h
        have ⟨_, hc, h⟩ := b_some h
        refine Exists.intro _ (Exists.intro _ (Exists.intro _ (And.intro (c11_rule F _ hc) (And.intro (by decide) (And.intro (fun q => absurd q (by decide)) ?_)))))
        have ⟨_, hc, h⟩ := b_some h
        refine Exists.intro _ (Exists.intro _ (Exists.intro _ (And.intro (c12_rule F _ hc) (And.intro (by decide) (And.intro (fun q => absurd q (by decide)) ?_)))))
        refine And.intro (fun hq => ?_) (fun hq => ?_)
        · have h := i_pos hq h
          exact ih _ _ h
        · have h := i_neg hq h
          have e := Option.some.inj h
          subst e
          exact And.intro (Or.inl rfl) hRP
      have h := i_neg hq h
      refine And.intro (fun hq => ?_) (fun hq => ?_)
      · have h := i_pos hq h
        have ⟨hg, h⟩ := g_gd h
        refine And.intro (inB_of hg) ?_
        have ⟨_, hc, h⟩ := b_some h
        refine Exists.intro _ (Exists.intro _ (Exists.intro _ (And.intro (c11_force F _ _ hc) (And.intro (by decide) (And.intro (fun q => absurd q (by decide)) ?_)))))
        have ⟨hg, h⟩ := g_gd h
        refine And.intro (inB_of hg) ?_
        have ⟨_, hc, h⟩ := b_some h
        refine Exists.intro _ (Exists.intro _ (Exists.intro _ (And.intro (c12_force F _ _ hc) (And.intro (by decide) (And.intro (fun q => absurd q (by decide)) ?_)))))
        refine And.intro (fun hq => ?_) (fun hq => ?_)
        · have h := i_pos hq h
          exact ih _ _ h
        · have h := i_neg hq h
          have e := Option.some.inj h
          subst e
          exact And.intro (Or.inl rfl) hRP
      have h := i_neg hq h
      refine And.intro (fun hq => ?_) (fun hq => ?_)
      · have h := i_pos hq h
        have ⟨hg, h⟩ := g_gd h
        refine And.intro (inB_of hg) ?_
        have ⟨hg, h⟩ := g_gd h
        refine And.intro (inB_of hg) ?_
        have ⟨_, hc, h⟩ := b_some h
        refine Exists.intro _ (Exists.intro _ (Exists.intro _ (And.intro (c11_smith F _ _ _ hc) (And.intro (by decide) (And.intro (fun q => absurd q (by decide)) ?_)))))
        have ⟨hg, h⟩ := g_gd h
        refine And.intro (inB_of hg) ?_
        have ⟨hg, h⟩ := g_gd h
        refine And.intro (inB_of hg) ?_
        have ⟨_, hc, h⟩ := b_some h
        refine Exists.intro _ (Exists.intro _ (Exists.intro _ (And.intro (c12_smith F _ _ _ hc) (And.intro (by decide) (And.intro (fun q => absurd q (by decide)) ?_)))))
        refine And.intro (fun hq => ?_) (fun hq => ?_)
        · have h := i_pos hq h
          exact ih _ _ h
        · have h := i_neg hq h
          have e := Option.some.inj h
          subst e
          exact And.intro (Or.inl rfl) hRP
      have h := i_neg hq h
      refine And.intro (fun hq => ?_) (fun hq => ?_)
      · have h := i_pos hq h
        have ⟨hg, h⟩ := g_gd h
        refine And.intro (inB_of hg) ?_
        have ⟨hg, h⟩ := g_gd h
        refine And.intro (inB_of hg) ?_
        have ⟨_, hc, h⟩ := b_some h
        refine Exists.intro _ (Exists.intro _ (Exists.intro _ (And.intro (c11_job F _ _ _ hc) (And.intro (by decide) (And.intro (fun q => absurd q (by decide)) ?_)))))
        have ⟨hg, h⟩ := g_gd h
        refine And.intro (inB_of hg) ?_
        have ⟨hg, h⟩ := g_gd h
        refine And.intro (inB_of hg) ?_
        have ⟨_, hc, h⟩ := b_some h
        refine Exists.intro _ (Exists.intro _ (Exists.intro _ (And.intro (c12_job F _ _ _ hc) (And.intro (by decide) (And.intro (fun q => absurd q (by decide)) ?_)))))
        refine And.intro (fun hq => ?_) (fun hq => ?_)
        · have h := i_pos hq h
          exact ih _ _ h
        · have h := i_neg hq h
          have e := Option.some.inj h
          subst e
          exact And.intro (Or.inl rfl) hRP
      have h := i_neg hq h
      refine And.intro (fun hq => ?_) (fun hq => ?_)
      · have h := i_pos hq h
        have ⟨hg, h⟩ := g_gd h
        refine And.intro (inB_of hg) ?_
        have ⟨_, hc, h⟩ := b_some h
        refine Exists.intro _ (Exists.intro _ (Exists.intro _ (And.intro (c11_worn F _ _ hc) (And.intro (by decide) (And.intro (fun q => absurd q (by decide)) ?_)))))
        have ⟨hg, h⟩ := g_gd h
        refine And.intro (inB_of hg) ?_
        have ⟨_, hc, h⟩ := b_some h
        refine Exists.intro _ (Exists.intro _ (Exists.intro _ (And.intro (c12_worn F _ _ hc) (And.intro (by decide) (And.intro (fun q => absurd q (by decide)) ?_)))))
        refine And.intro (fun hq => ?_) (fun hq => ?_)
        · have h := i_pos hq h
          exact ih _ _ h
        · have h := i_neg hq h
          have e := Option.some.inj h
          subst e
          exact And.intro (Or.inl rfl) hRP
      have h := i_neg hq h
      refine And.intro (fun hq => ?_) (fun hq => ?_)
      · have h := i_pos hq h
        have ⟨_, hc, h⟩ := b_some h
        refine Exists.intro _ (Exists.intro _ (Exists.intro _ (And.intro (c11_moment F _ hc) (And.intro (by decide) (And.intro (fun q => absurd q (by decide)) ?_)))))
        have ⟨_, hc, h⟩ := b_some h
        refine Exists.intro _ (Exists.intro _ (Exists.intro _ (And.intro (c12_moment F _ hc) (And.intro (by decide) (And.intro (fun q => absurd q (by decide)) ?_)))))
        refine And.intro (fun hq => ?_) (fun hq => ?_)
        · have h := i_pos hq h
          exact ih _ _ h
        · have h := i_neg hq h
          have e := Option.some.inj h
          subst e
          exact And.intro (Or.inl rfl) hRP
      have h := i_neg hq h
      refine And.intro (fun hq => ?_) (fun hq => ?_)
      · have h := i_pos hq h
        have ⟨hg, h⟩ := g_gd h
        refine And.intro (inB_of hg) ?_
        have ⟨_, hc, h⟩ := b_some h
        refine Exists.intro _ (Exists.intro _ (Exists.intro _ (And.intro (c11_quench F _ _ hc) (And.intro (by decide) (And.intro (fun q => absurd q (by decide)) ?_)))))
        have ⟨hg, h⟩ := g_gd h
        refine And.intro (inB_of hg) ?_
        have ⟨_, hc, h⟩ := b_some h
        refine Exists.intro _ (Exists.intro _ (Exists.intro _ (And.intro (c12_quench F _ _ hc) (And.intro (by decide) (And.intro (fun q => absurd q (by decide)) ?_)))))
        refine And.intro (fun hq => ?_) (fun hq => ?_)
        · have h := i_pos hq h
          exact ih _ _ h
        · have h := i_neg hq h
          have e := Option.some.inj h
          subst e
          exact And.intro (Or.inl rfl) hRP
      have h := i_neg hq h
      refine And.intro (fun hq => ?_) (fun hq => ?_)
      · have h := i_pos hq h
        have ⟨hg, h⟩ := g_gd h
        refine And.intro (inB_of hg) ?_
        have ⟨_, hc, h⟩ := b_some h
        refine Exists.intro _ (Exists.intro _ (Exists.intro _ (And.intro (c11_mend F _ _ hc) (And.intro (by decide) (And.intro (fun q => absurd q (by decide)) ?_)))))
        have ⟨hg, h⟩ := g_gd h
        refine And.intro (inB_of hg) ?_
        have ⟨_, hc, h⟩ := b_some h
        refine Exists.intro _ (Exists.intro _ (Exists.intro _ (And.intro (c12_mend F _ _ hc) (And.intro (by decide) (And.intro (fun q => absurd q (by decide)) ?_)))))
        refine And.intro (fun hq => ?_) (fun hq => ?_)
        · have h := i_pos hq h
          exact ih _ _ h
        · have h := i_neg hq h
          have e := Option.some.inj h
          subst e
          exact And.intro (Or.inl rfl) hRP
      have h := i_neg hq h
      refine And.intro (fun hq => ?_) (fun hq => ?_)
      · have h := i_pos hq h
        have ⟨hg, h⟩ := g_gd h
        refine And.intro (inB_of hg) ?_
        have ⟨_, hc, h⟩ := b_some h
        refine Exists.intro _ (Exists.intro _ (Exists.intro _ (And.intro (c11_aside F _ _ hc) (And.intro (by decide) (And.intro (fun q => absurd q (by decide)) ?_)))))
        have ⟨hg, h⟩ := g_gd h
        refine And.intro (inB_of hg) ?_
        have ⟨_, hc, h⟩ := b_some h
        refine Exists.intro _ (Exists.intro _ (Exists.intro _ (And.intro (c12_aside F _ _ hc) (And.intro (by decide) (And.intro (fun q => absurd q (by decide)) ?_)))))
        refine And.intro (fun hq => ?_) (fun hq => ?_)
        · have h := i_pos hq h
          exact ih _ _ h
        · have h := i_neg hq h
          have e := Option.some.inj h
          subst e
          exact And.intro (Or.inl rfl) hRP
      have h := i_neg hq h
      refine And.intro (fun hq => ?_) (fun hq => ?_)
      · have h := i_pos hq h
        have ⟨_, hc, h⟩ := b_some h
        refine Exists.intro _ (Exists.intro _ (Exists.intro _ (And.intro (c11_undo F _ hc) (And.intro (by decide) (And.intro (fun q => absurd q (by decide)) ?_)))))
        have ⟨_, hc, h⟩ := b_some h
        refine Exists.intro _ (Exists.intro _ (Exists.intro _ (And.intro (c12_undo F _ hc) (And.intro (by decide) (And.intro (fun q => absurd q (by decide)) ?_)))))
        refine And.intro (fun hq => ?_) (fun hq => ?_)
        · have h := i_pos hq h
          exact ih _ _ h
        · have h := i_neg hq h
          have e := Option.some.inj h
          subst e
          exact And.intro (Or.inl rfl) hRP
      have h := i_neg hq h
      refine And.intro (fun hq => ?_) (fun hq => ?_)
      · have h := i_pos hq h
        have ⟨hg, h⟩ := g_gd h
        refine And.intro (inB_of hg) ?_
        have ⟨hg, h⟩ := g_gd h
        refine And.intro (inB_of hg) ?_
        have ⟨hg, h⟩ := g_gd h
        refine And.intro (inB_of hg) ?_
        have ⟨_, hc, h⟩ := b_some h
        refine Exists.intro _ (Exists.intro _ (Exists.intro _ (And.intro (c11_ahead F _ _ _ _ hc) (And.intro (by decide) (And.intro (fun q => absurd q (by decide)) ?_)))))
        have ⟨hg, h⟩ := g_gd h
        refine And.intro (inB_of hg) ?_
        have ⟨hg, h⟩ := g_gd h
        refine And.intro (inB_of hg) ?_
        have ⟨hg, h⟩ := g_gd h
        refine And.intro (inB_of hg) ?_
        have ⟨_, hc, h⟩ := b_some h
        refine Exists.intro _ (Exists.intro _ (Exists.intro _ (And.intro (c12_ahead F _ _ _ _ hc) (And.intro (by decide) (And.intro (fun q => absurd q (by decide)) ?_)))))
        refine And.intro (fun hq => ?_) (fun hq => ?_)
        · have h := i_pos hq h
          exact ih _ _ h
        · have h := i_neg hq h
          have e := Option.some.inj h
          subst e
          exact And.intro (Or.inl rfl) hRP
      have h := i_neg hq h
      refine And.intro (fun hq => ?_) (fun hq => ?_)
      · have h := i_pos hq h
        have ⟨hg, h⟩ := g_gd h
        refine And.intro (inB_of hg) ?_
        have ⟨_, hc, h⟩ := b_some h
        refine Exists.intro _ (Exists.intro _ (Exists.intro _ (And.intro (c11_ready F _ _ hc) (And.intro (by decide) (And.intro (fun q => absurd q (by decide)) ?_)))))
        have ⟨hg, h⟩ := g_gd h
        refine And.intro (inB_of hg) ?_
        have ⟨_, hc, h⟩ := b_some h
        refine Exists.intro _ (Exists.intro _ (Exists.intro _ (And.intro (c12_ready F _ _ hc) (And.intro (by decide) (And.intro (fun q => absurd q (by decide)) ?_)))))
        refine And.intro (fun hq => ?_) (fun hq => ?_)
        · have h := i_pos hq h
          exact ih _ _ h
        · have h := i_neg hq h
          have e := Option.some.inj h
          subst e
          exact And.intro (Or.inl rfl) hRP
      have h := i_neg hq h
      refine And.intro (fun hq => ?_) (fun hq => ?_)
      · have h := i_pos hq h
        have ⟨_, hc, h⟩ := b_some h
        refine Exists.intro _ (Exists.intro _ (Exists.intro _ (And.intro (c11_all F _ hc) (And.intro (by decide) (And.intro (fun q => absurd q (by decide)) ?_)))))
        have ⟨_, hc, h⟩ := b_some h
        refine Exists.intro _ (Exists.intro _ (Exists.intro _ (And.intro (c12_all F _ hc) (And.intro (by decide) (And.intro (fun q => absurd q (by decide)) ?_)))))
        refine And.intro (fun hq => ?_) (fun hq => ?_)
        · have h := i_pos hq h
          exact ih _ _ h
        · have h := i_neg hq h
          have e := Option.some.inj h
          subst e
          exact And.intro (Or.inl rfl) hRP
      have h := i_neg hq h
      refine And.intro (fun hq => ?_) (fun hq => ?_)
      · have h := i_pos hq h
        have ⟨hg, h⟩ := g_gd h
        refine And.intro (inB_of hg) ?_
        have ⟨hg, h⟩ := g_gd h
        refine And.intro (inB_of hg) ?_
        have ⟨_, hc, h⟩ := b_some h
        refine Exists.intro _ (Exists.intro _ (Exists.intro _ (And.intro (c11_rota F _ _ _ hc) (And.intro (by decide) (And.intro (fun q => absurd q (by decide)) ?_)))))
        have ⟨hg, h⟩ := g_gd h
        refine And.intro (inB_of hg) ?_
        have ⟨hg, h⟩ := g_gd h
        refine And.intro (inB_of hg) ?_
        have ⟨_, hc, h⟩ := b_some h
        refine Exists.intro _ (Exists.intro _ (Exists.intro _ (And.intro (c12_rota F _ _ _ hc) (And.intro (by decide) (And.intro (fun q => absurd q (by decide)) ?_)))))
        refine And.intro (fun hq => ?_) (fun hq => ?_)
        · have h := i_pos hq h
          exact ih _ _ h
        · have h := i_neg hq h
          have e := Option.some.inj h
          subst e
          exact And.intro (Or.inl rfl) hRP
      have h := i_neg hq h
      refine And.intro (fun hq => ?_) (fun hq => ?_)
      · have h := i_pos hq h
        have ⟨hg, h⟩ := g_gd h
        refine And.intro (inB_of hg) ?_
        have ⟨_, hc, h⟩ := b_some h
        refine Exists.intro _ (Exists.intro _ (Exists.intro _ (And.intro (c11_round F _ _ hc) (And.intro (by decide) (And.intro (fun q => absurd q (by decide)) ?_)))))
        have ⟨hg, h⟩ := g_gd h
        refine And.intro (inB_of hg) ?_
        have ⟨_, hc, h⟩ := b_some h
        refine Exists.intro _ (Exists.intro _ (Exists.intro _ (And.intro (c12_round F _ _ hc) (And.intro (by decide) (And.intro (fun q => absurd q (by decide)) ?_)))))
        refine And.intro (fun hq => ?_) (fun hq => ?_)
        · have h := i_pos hq h
          exact ih _ _ h
        · have h := i_neg hq h
          have e := Option.some.inj h
          subst e
          exact And.intro (Or.inl rfl) hRP
      have h := i_neg hq h
      refine And.intro (fun hq => ?_) (fun hq => ?_)
      · have h := i_pos hq h
        have ⟨hg, h⟩ := g_gd h
        refine And.intro (inB_of hg) ?_
        have ⟨_, hc, h⟩ := b_some h
        refine Exists.intro _ (Exists.intro _ (Exists.intro _ (And.intro (c11_beside F _ _ hc) (And.intro (by decide) (And.intro (fun q => absurd q (by decide)) ?_)))))
        have ⟨hg, h⟩ := g_gd h
        refine And.intro (inB_of hg) ?_
        have ⟨_, hc, h⟩ := b_some h
        refine Exists.intro _ (Exists.intro _ (Exists.intro _ (And.intro (c12_beside F _ _ hc) (And.intro (by decide) (And.intro (fun q => absurd q (by decide)) ?_)))))
        refine And.intro (fun hq => ?_) (fun hq => ?_)
        · have h := i_pos hq h
          exact ih _ _ h
        · have h := i_neg hq h
          have e := Option.some.inj h
          subst e
          exact And.intro (Or.inl rfl) hRP
      have h := i_neg hq h
      refine And.intro (fun hq => ?_) (fun hq => ?_)
      · have h := i_pos hq h
        have ⟨hg, h⟩ := g_gd h
        refine And.intro (inB_of hg) ?_
        have ⟨hg, h⟩ := g_gd h
        refine And.intro (inB_of hg) ?_
        have ⟨_, hc, h⟩ := b_some h
        refine Exists.intro _ (Exists.intro _ (Exists.intro _ (And.intro (c11_worth F _ _ _ hc) (And.intro (by decide) (And.intro (fun q => absurd q (by decide)) ?_)))))
        have ⟨hg, h⟩ := g_gd h
        refine And.intro (inB_of hg) ?_
        have ⟨hg, h⟩ := g_gd h
        refine And.intro (inB_of hg) ?_
        have ⟨_, hc, h⟩ := b_some h
        refine Exists.intro _ (Exists.intro _ (Exists.intro _ (And.intro (c12_worth F _ _ _ hc) (And.intro (by decide) (And.intro (fun q => absurd q (by decide)) ?_)))))
        refine And.intro (fun hq => ?_) (fun hq => ?_)
        · have h := i_pos hq h
          exact ih _ _ h
        · have h := i_neg hq h
          have e := Option.some.inj h
          subst e
          exact And.intro (Or.inl rfl) hRP
      have h := i_neg hq h
      refine And.intro (fun hq => ?_) (fun hq => ?_)
      · have h := i_pos hq h
        have ⟨hg, h⟩ := g_gd h
        refine And.intro (inB_of hg) ?_
        have ⟨hg, h⟩ := g_gd h
        refine And.intro (inB_of hg) ?_
        have ⟨_, hc, h⟩ := b_some h
        refine Exists.intro _ (Exists.intro _ (Exists.intro _ (And.intro (c11_splits F _ _ _ hc) (And.intro (by decide) (And.intro (fun q => absurd q (by decide)) ?_)))))
        have ⟨hg, h⟩ := g_gd h
        refine And.intro (inB_of hg) ?_
        have ⟨hg, h⟩ := g_gd h
        refine And.intro (inB_of hg) ?_
        have ⟨_, hc, h⟩ := b_some h
        refine Exists.intro _ (Exists.intro _ (Exists.intro _ (And.intro (c12_splits F _ _ _ hc) (And.intro (by decide) (And.intro (fun q => absurd q (by decide)) ?_)))))
        refine And.intro (fun hq => ?_) (fun hq => ?_)
        · have h := i_pos hq h
          exact ih _ _ h
        · have h := i_neg hq h
          have e := Option.some.inj h
          subst e
          exact And.intro (Or.inl rfl) hRP
      have h := i_neg hq h
      refine And.intro (fun hq => ?_) (fun hq => ?_)
      · have h := i_pos hq h
        have ⟨hg, h⟩ := g_gd h
        refine And.intro (inB_of hg) ?_
        have ⟨hg, h⟩ := g_gd h
        refine And.intro (inB_of hg) ?_
        have ⟨_, hc, h⟩ := b_some h
        refine Exists.intro _ (Exists.intro _ (Exists.intro _ (And.intro (c11_order F _ _ _ hc) (And.intro (by decide) (And.intro (fun q => absurd q (by decide)) ?_)))))
        have ⟨hg, h⟩ := g_gd h
        refine And.intro (inB_of hg) ?_
        have ⟨hg, h⟩ := g_gd h
        refine And.intro (inB_of hg) ?_
        have ⟨_, hc, h⟩ := b_some h
        refine Exists.intro _ (Exists.intro _ (Exists.intro _ (And.intro (c12_order F _ _ _ hc) (And.intro (by decide) (And.intro (fun q => absurd q (by decide)) ?_)))))
        refine And.intro (fun hq => ?_) (fun hq => ?_)
        · have h := i_pos hq h
          exact ih _ _ h
        · have h := i_neg hq h
          have e := Option.some.inj h
          subst e
          exact And.intro (Or.inl rfl) hRP
      have h := i_neg hq h
      refine And.intro (fun hq => ?_) (fun hq => ?_)
      · have h := i_pos hq h
        have ⟨hg, h⟩ := g_gd h
        refine And.intro (inB_of hg) ?_
        have ⟨hg, h⟩ := g_gd h
        refine And.intro (inB_of hg) ?_
        have ⟨hg, h⟩ := g_gd h
        refine And.intro (inB_of hg) ?_
        have ⟨_, hc, h⟩ := b_some h
        refine Exists.intro _ (Exists.intro _ (Exists.intro _ (And.intro (c11_note F _ _ _ _ hc) (And.intro (by decide) (And.intro (fun q => absurd q (by decide)) ?_)))))
        have ⟨hg, h⟩ := g_gd h
        refine And.intro (inB_of hg) ?_
        have ⟨hg, h⟩ := g_gd h
        refine And.intro (inB_of hg) ?_
        have ⟨hg, h⟩ := g_gd h
        refine And.intro (inB_of hg) ?_
        have ⟨_, hc, h⟩ := b_some h
        refine Exists.intro _ (Exists.intro _ (Exists.intro _ (And.intro (c12_note F _ _ _ _ hc) (And.intro (by decide) (And.intro (fun q => absurd q (by decide)) ?_)))))
        refine And.intro (fun hq => ?_) (fun hq => ?_)
        · have h := i_pos hq h
          exact ih _ _ h
        · have h := i_neg hq h
          have e := Option.some.inj h
          subst e
          exact And.intro (Or.inl rfl) hRP
      have h := i_neg hq h
      refine And.intro (fun hq => ?_) (fun hq => ?_)
      · have h := i_pos hq h
        have ⟨hg, h⟩ := g_gd h
        refine And.intro (inB_of hg) ?_
        have ⟨_, hc, h⟩ := b_some h
        refine Exists.intro _ (Exists.intro _ (Exists.intro _ (And.intro (c11_ruled F _ _ hc) (And.intro (by decide) (And.intro (fun q => absurd q (by decide)) ?_)))))
        have ⟨hg, h⟩ := g_gd h
        refine And.intro (inB_of hg) ?_
        have ⟨_, hc, h⟩ := b_some h
        refine Exists.intro _ (Exists.intro _ (Exists.intro _ (And.intro (c12_ruled F _ _ hc) (And.intro (by decide) (And.intro (fun q => absurd q (by decide)) ?_)))))
        refine And.intro (fun hq => ?_) (fun hq => ?_)
        · have h := i_pos hq h
          exact ih _ _ h
        · have h := i_neg hq h
          have e := Option.some.inj h
          subst e
          exact And.intro (Or.inl rfl) hRP
      have h := i_neg hq h
      refine And.intro (fun hq => ?_) (fun hq => ?_)
      · have h := i_pos hq h
        have ⟨hg, h⟩ := g_gd h
        refine And.intro (inB_of hg) ?_
        have ⟨hg, h⟩ := g_gd h
        refine And.intro (inB_of hg) ?_
        have ⟨_, hc, h⟩ := b_some h
        refine Exists.intro _ (Exists.intro _ (Exists.intro _ (And.intro (c11_look F _ _ _ hc) (And.intro (by decide) (And.intro (fun q => absurd q (by decide)) ?_)))))
        have ⟨hg, h⟩ := g_gd h
        refine And.intro (inB_of hg) ?_
        have ⟨hg, h⟩ := g_gd h
        refine And.intro (inB_of hg) ?_
        have ⟨_, hc, h⟩ := b_some h
        refine Exists.intro _ (Exists.intro _ (Exists.intro _ (And.intro (c12_look F _ _ _ hc) (And.intro (by decide) (And.intro (fun q => absurd q (by decide)) ?_)))))
        refine And.intro (fun hq => ?_) (fun hq => ?_)
        · have h := i_pos hq h
          exact ih _ _ h
        · have h := i_neg hq h
          have e := Option.some.inj h
          subst e
          exact And.intro (Or.inl rfl) hRP
      have h := i_neg hq h
      refine And.intro (fun hq => ?_) (fun hq => ?_)
      · have h := i_pos hq h
        have ⟨_, hc, h⟩ := b_some h
        refine Exists.intro _ (Exists.intro _ (Exists.intro _ (And.intro (c11_second F _ hc) (And.intro (by decide) (And.intro (fun q => absurd q (by decide)) ?_)))))
        have ⟨_, hc, h⟩ := b_some h
        refine Exists.intro _ (Exists.intro _ (Exists.intro _ (And.intro (c12_second F _ hc) (And.intro (by decide) (And.intro (fun q => absurd q (by decide)) ?_)))))
        refine And.intro (fun hq => ?_) (fun hq => ?_)
        · have h := i_pos hq h
          exact ih _ _ h
        · have h := i_neg hq h
          have e := Option.some.inj h
          subst e
          exact And.intro (Or.inl rfl) hRP
      have h := i_neg hq h
      refine And.intro (fun hq => ?_) (fun hq => ?_)
      · have h := i_pos hq h
        have ⟨hg, h⟩ := g_gd h
        refine And.intro (inB_of hg) ?_
        have ⟨_, hc, h⟩ := b_some h
        refine Exists.intro _ (Exists.intro _ (Exists.intro _ (And.intro (c11_seed F _ _ hc) (And.intro (by decide) (And.intro (fun q => absurd q (by decide)) ?_)))))
        have ⟨hg, h⟩ := g_gd h
        refine And.intro (inB_of hg) ?_
        have ⟨_, hc, h⟩ := b_some h
        refine Exists.intro _ (Exists.intro _ (Exists.intro _ (And.intro (c12_seed F _ _ hc) (And.intro (by decide) (And.intro (fun q => absurd q (by decide)) ?_)))))
        refine And.intro (fun hq => ?_) (fun hq => ?_)
        · have h := i_pos hq h
          exact ih _ _ h
        · have h := i_neg hq h
          have e := Option.some.inj h
          subst e
          exact And.intro (Or.inl rfl) hRP
      have h := i_neg hq h
      refine And.intro (fun hq => ?_) (fun hq => ?_)
      · have h := i_pos hq h
        have ⟨hg, h⟩ := g_gd h
        refine And.intro (inB_of hg) ?_
        have ⟨hg, h⟩ := g_gd h
        refine And.intro (inB_of hg) ?_
        have ⟨hg, h⟩ := g_gd h
        refine And.intro (inB_of hg) ?_
        have ⟨hg, h⟩ := g_gd h
        refine And.intro (inB_of hg) ?_
        have ⟨_, hc, h⟩ := b_some h
        refine Exists.intro _ (Exists.intro _ (Exists.intro _ (And.intro (c11_days F _ _ _ _ _ hc) (And.intro (by decide) (And.intro (fun q => absurd q (by decide)) ?_)))))
        have ⟨hg, h⟩ := g_gd h
        refine And.intro (inB_of hg) ?_
        have ⟨hg, h⟩ := g_gd h
        refine And.intro (inB_of hg) ?_
        have ⟨hg, h⟩ := g_gd h
        refine And.intro (inB_of hg) ?_
        have ⟨hg, h⟩ := g_gd h
        refine And.intro (inB_of hg) ?_
        have ⟨_, hc, h⟩ := b_some h
        refine Exists.intro _ (Exists.intro _ (Exists.intro _ (And.intro (c12_days F _ _ _ _ _ hc) (And.intro (by decide) (And.intro (fun q => absurd q (by decide)) ?_)))))
        refine And.intro (fun hq => ?_) (fun hq => ?_)
        · have h := i_pos hq h
          exact ih _ _ h
        · have h := i_neg hq h
          have e := Option.some.inj h
          subst e
          exact And.intro (Or.inl rfl) hRP
      have h := i_neg hq h
      refine And.intro (fun hq => ?_) (fun hq => ?_)
      · have h := i_pos hq h
        have ⟨hg, h⟩ := g_gd h
        refine And.intro (inB_of hg) ?_
        have ⟨_, hc, h⟩ := b_some h
        refine Exists.intro _ (Exists.intro _ (Exists.intro _ (And.intro (c11_count F _ _ hc) (And.intro (by decide) (And.intro (fun q => absurd q (by decide)) ?_)))))
        have ⟨hg, h⟩ := g_gd h
        refine And.intro (inB_of hg) ?_
        have ⟨_, hc, h⟩ := b_some h
        refine Exists.intro _ (Exists.intro _ (Exists.intro _ (And.intro (c12_count F _ _ hc) (And.intro (by decide) (And.intro (fun q => absurd q (by decide)) ?_)))))
        refine And.intro (fun hq => ?_) (fun hq => ?_)
        · have h := i_pos hq h
          exact ih _ _ h
        · have h := i_neg hq h
          have e := Option.some.inj h
          subst e
          exact And.intro (Or.inl rfl) hRP
      have h := i_neg hq h
      refine And.intro (fun hq => ?_) (fun hq => ?_)
      · have h := i_pos hq h
        have ⟨hg, h⟩ := g_gd h
        refine And.intro (inB_of hg) ?_
        have ⟨_, hc, h⟩ := b_some h
        refine Exists.intro _ (Exists.intro _ (Exists.intro _ (And.intro (c11_image F _ _ hc) (And.intro (by decide) (And.intro (fun q => absurd q (by decide)) ?_)))))
        have ⟨hg, h⟩ := g_gd h
        refine And.intro (inB_of hg) ?_
        have ⟨_, hc, h⟩ := b_some h
        refine Exists.intro _ (Exists.intro _ (Exists.intro _ (And.intro (c12_image F _ _ hc) (And.intro (by decide) (And.intro (fun q => absurd q (by decide)) ?_)))))
        refine And.intro (fun hq => ?_) (fun hq => ?_)
        · have h := i_pos hq h
          exact ih _ _ h
        · have h := i_neg hq h
          have e := Option.some.inj h
          subst e
          exact And.intro (Or.inl rfl) hRP
      have h := i_neg hq h
      refine And.intro (fun hq => ?_) (fun hq => ?_)
      · have h := i_pos hq h
        have ⟨hg, h⟩ := g_gd h
        refine And.intro (inB_of hg) ?_
        have ⟨_, hc, h⟩ := b_some h
        refine Exists.intro _ (Exists.intro _ (Exists.intro _ (And.intro (c11_back F _ _ hc) (And.intro (by decide) (And.intro (fun q => absurd q (by decide)) ?_)))))
        have ⟨hg, h⟩ := g_gd h
        refine And.intro (inB_of hg) ?_
        have ⟨_, hc, h⟩ := b_some h
        refine Exists.intro _ (Exists.intro _ (Exists.intro _ (And.intro (c12_back F _ _ hc) (And.intro (by decide) (And.intro (fun q => absurd q (by decide)) ?_)))))
        refine And.intro (fun hq => ?_) (fun hq => ?_)
        · have h := i_pos hq h
          exact ih _ _ h
        · have h := i_neg hq h
          have e := Option.some.inj h
          subst e
          exact And.intro (Or.inl rfl) hRP
      have h := i_neg hq h
      exact ih _ _ h
