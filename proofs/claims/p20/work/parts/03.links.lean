/-! links, by the class that has them -/
def pg_fkL : List (List (Nat × Nat × Nat × Nat)) := [
  [(14, 0, 0, 741), (19, 0, 1, 742), (22, 0, 2, 743), (25, 0, 3, 744), (30, 0, 4, 745), (37, 0, 5, 746), (41, 0, 7, 748), (47, 0, 8, 749), (51, 0, 9, 750), (57, 0, 10, 751), (66, 0, 11, 752), (75, 0, 12, 753), (84, 0, 13, 754), (93, 0, 14, 755), (102, 0, 15, 756), (109, 0, 16, 757), (120, 10, 1, 57), (133, 0, 6, 747), (172, 6, 2, 261), (180, 5, 7, 186), (190, 3, 18, 460), (195, 1, 4, 639), (211, 4, 0, 698), (243, 7, 8, 99), (255, 3, 3, 434), (258, 5, 14, 211), (266, 7, 15, 113), (270, 7, 16, 116), (274, 2, 11, 569), (281, 8, 1, 291), (285, 8, 2, 294), (288, 8, 3, 297), (291, 8, 4, 302), (294, 8, 5, 308), (297, 8, 11, 331), (302, 0, 17, 758), (323, 4, 6, 705), (326, 4, 7, 707), (329, 4, 12, 713), (335, 3, 19, 463), (338, 3, 14, 452), (346, 2, 12, 572), (349, 3, 17, 458), (352, 9, 4, 521), (353, 2, 17, 581), (371, 10, 0, 54), (378, 3, 13, 447), (390, 7, 4, 87)],
  [(9, 1, 0, 634), (15, 1, 1, 635), (19, 1, 2, 636), (23, 1, 3, 637), (33, 1, 4, 638), (39, 2, 4, 551), (55, 2, 16, 577), (59, 2, 18, 582), (66, 2, 11, 567), (74, 8, 4, 298), (79, 8, 10, 322), (87, 10, 0, 49), (91, 8, 7, 311), (94, 8, 5, 303), (101, 2, 5, 554), (105, 9, 5, 523), (110, 2, 6, 557), (113, 9, 3, 518), (114, 9, 1, 514), (117, 9, 2, 516), (120, 2, 13, 573), (123, 2, 12, 570), (134, 3, 3, 431), (140, 3, 12, 445), (169, 5, 14, 207), (180, 2, 7, 560), (183, 2, 8, 563), (189, 8, 11, 327), (190, 3, 14, 449), (197, 7, 8, 96), (221, 3, 19, 461), (242, 2, 17, 579), (271, 7, 5, 90)],
  [(9, 2, 0, 546), (15, 2, 1, 547), (21, 2, 2, 548), (26, 2, 3, 549), (30, 2, 4, 550), (34, 2, 5, 553), (38, 2, 6, 556), (41, 2, 7, 559), (44, 2, 8, 562), (47, 2, 9, 564), (51, 2, 10, 565), (54, 2, 11, 566), (58, 8, 4, 299), (66, 2, 18, 583), (86, 8, 10, 324), (96, 8, 11, 329), (99, 3, 3, 432), (105, 6, 2, 260), (116, 5, 14, 210), (125, 3, 14, 450), (132, 8, 9, 320), (139, 2, 12, 571), (142, 2, 13, 574), (161, 7, 8, 97), (200, 5, 16, 215), (203, 5, 15, 213), (209, 2, 17, 580), (215, 8, 5, 306), (222, 3, 15, 455), (232, 5, 8, 191), (234, 5, 5, 179), (237, 5, 13, 204), (261, 2, 14, 575), (264, 9, 5, 524), (265, 9, 4, 520), (277, 2, 15, 576), (280, 5, 7, 188), (283, 2, 16, 578), (286, 8, 6, 310), (292, 5, 6, 183), (300, 8, 8, 317)],
  [(9, 3, 0, 426), (15, 3, 1, 427), (19, 3, 2, 428), (27, 3, 3, 430), (32, 3, 4, 435), (37, 3, 5, 436), (43, 3, 6, 437), (49, 3, 7, 438), (55, 3, 8, 439), (59, 3, 9, 440), (62, 3, 10, 441), (66, 3, 11, 442), (70, 3, 12, 444), (79, 3, 13, 446), (82, 3, 18, 459), (86, 3, 14, 448), (89, 3, 15, 454), (92, 6, 1, 258), (99, 5, 5, 177), (102, 5, 6, 181), (109, 7, 10, 102), (121, 8, 8, 315), (128, 8, 9, 319), (135, 7, 4, 86), (165, 7, 15, 112), (167, 7, 16, 115), (170, 3, 17, 457), (173, 3, 19, 462), (177, 6, 2, 262), (188, 5, 7, 187), (195, 5, 11, 200), (197, 5, 4, 176), (207, 7, 11, 107), (213, 7, 0, 78), (249, 8, 0, 288), (251, 7, 1, 80), (254, 8, 1, 290), (255, 7, 2, 82), (258, 8, 2, 293), (259, 8, 3, 296), (262, 8, 4, 301), (269, 8, 5, 307), (281, 8, 6, 309), (284, 7, 5, 91), (290, 8, 7, 314), (295, 8, 10, 325), (298, 8, 11, 330), (301, 8, 12, 333), (307, 7, 8, 100), (318, 5, 12, 202), (328, 5, 10, 198), (336, 5, 8, 192), (339, 5, 9, 195), (342, 5, 13, 205), (346, 3, 16, 456)],
  [(15, 4, 0, 697), (21, 4, 1, 699), (25, 4, 2, 700), (28, 4, 3, 701), (31, 4, 4, 702), (35, 4, 5, 703), (38, 10, 1, 55), (78, 10, 0, 51), (84, 4, 7, 706), (88, 4, 6, 704), (94, 4, 12, 712), (97, 4, 9, 709), (116, 4, 8, 708), (119, 4, 10, 710), (122, 4, 11, 711)],
  [(9, 5, 0, 166), (15, 5, 1, 168), (18, 5, 2, 170), (21, 5, 3, 172), (47, 5, 4, 175), (50, 5, 5, 178), (53, 5, 6, 182), (57, 5, 7, 185), (60, 5, 8, 190), (63, 5, 9, 194), (66, 5, 10, 197), (70, 5, 11, 199), (73, 5, 12, 201), (76, 5, 13, 203), (79, 5, 14, 209), (82, 5, 15, 212), (85, 5, 16, 214), (88, 5, 17, 216)],
  [(15, 6, 0, 256), (22, 6, 1, 257), (26, 6, 2, 259), (30, 5, 0, 167), (34, 5, 1, 169), (37, 5, 2, 171), (40, 5, 3, 173)],
  [(9, 7, 0, 77), (15, 7, 1, 79), (19, 7, 2, 81), (22, 7, 3, 83), (26, 7, 4, 84), (29, 7, 5, 88), (32, 7, 6, 92), (35, 7, 8, 95), (38, 7, 9, 101), (41, 7, 11, 106), (44, 7, 15, 111), (48, 7, 16, 114), (51, 10, 0, 50), (60, 7, 7, 94), (85, 7, 10, 103), (95, 7, 12, 108), (168, 7, 13, 109), (212, 7, 14, 110)],
  [],
  [(9, 9, 0, 512), (16, 9, 1, 513), (20, 9, 2, 515), (23, 9, 3, 517), (27, 9, 4, 519), (30, 9, 5, 522), (34, 8, 7, 312), (39, 8, 5, 304), (54, 10, 0, 52), (58, 8, 9, 318), (62, 8, 10, 323), (65, 8, 11, 328)],
  [(15, 10, 0, 48), (21, 10, 1, 56), (25, 10, 2, 59)],
  [(9, 11, 0, 660), (15, 11, 1, 661), (19, 11, 2, 662), (28, 11, 3, 663), (31, 11, 4, 664), (37, 11, 5, 665), (44, 7, 11, 105), (57, 10, 1, 58), (82, 3, 11, 443), (118, 2, 11, 568), (127, 8, 11, 326), (133, 8, 5, 305), (137, 8, 4, 300), (140, 8, 1, 289), (145, 8, 2, 292), (148, 8, 3, 295), (151, 3, 15, 453), (158, 5, 14, 208), (159, 10, 2, 60), (171, 5, 3, 174), (189, 7, 4, 85), (201, 7, 6, 93), (204, 10, 0, 53), (207, 7, 5, 89), (224, 3, 14, 451), (252, 11, 8, 668), (259, 8, 9, 321), (262, 8, 12, 332), (269, 7, 8, 98), (279, 11, 7, 667), (282, 11, 6, 666), (285, 3, 3, 433), (289, 6, 2, 263), (295, 5, 17, 217), (300, 3, 2, 429), (325, 8, 7, 313), (357, 7, 10, 104), (361, 8, 8, 316), (375, 5, 5, 180), (378, 5, 6, 184), (381, 5, 9, 196), (384, 5, 7, 189), (387, 5, 8, 193), (403, 5, 13, 206), (408, 2, 4, 552), (415, 2, 6, 558), (418, 2, 5, 555), (421, 2, 7, 561)],
  [(7, 12, 1, 2175), (14, 12, 3, 2177), (17, 12, 6, 2180), (20, 12, 7, 2181), (24, 12, 8, 2182), (27, 12, 9, 2183), (30, 12, 10, 2184), (33, 12, 11, 2185), (37, 12, 12, 2186), (40, 12, 13, 2187), (44, 12, 17, 2191), (47, 12, 18, 2192), (50, 12, 19, 2193), (54, 12, 21, 2195), (57, 12, 22, 2196), (60, 12, 23, 2197), (63, 12, 24, 2198), (66, 12, 25, 2199), (69, 12, 26, 2200), (72, 12, 27, 2201), (75, 12, 28, 2202), (78, 12, 29, 2203), (82, 12, 30, 2204), (85, 12, 33, 2207), (88, 12, 34, 2208), (91, 12, 35, 2209), (94, 12, 36, 2210), (97, 12, 37, 2211), (100, 12, 38, 2212), (103, 12, 39, 2213), (106, 12, 40, 2214), (109, 12, 41, 2215), (112, 12, 42, 2216), (115, 12, 45, 2219), (118, 12, 46, 2220), (121, 12, 47, 2221), (124, 12, 49, 2223), (127, 12, 51, 2225), (130, 12, 52, 2226), (133, 12, 53, 2227), (136, 12, 54, 2228), (139, 12, 55, 2229), (142, 12, 56, 2230), (145, 12, 57, 2231), (148, 12, 58, 2232), (151, 12, 59, 2233), (154, 12, 60, 2234), (157, 12, 61, 2235), (160, 12, 62, 2236), (163, 12, 63, 2237), (166, 12, 65, 2239), (169, 12, 66, 2240), (172, 12, 67, 2241), (175, 12, 71, 2245), (178, 12, 72, 2246), (181, 12, 73, 2247), (184, 12, 75, 2249), (187, 12, 76, 2250), (190, 12, 77, 2251), (193, 12, 78, 2252), (196, 12, 91, 2265), (200, 12, 92, 2266), (203, 12, 93, 2267), (206, 12, 94, 2268), (209, 12, 95, 2269), (212, 12, 96, 2270), (215, 12, 97, 2271), (218, 12, 99, 2273), (221, 12, 100, 2274), (224, 12, 105, 2279), (227, 12, 106, 2280), (230, 12, 107, 2281), (233, 12, 108, 2282), (236, 12, 109, 2283), (239, 12, 110, 2284), (242, 12, 111, 2285), (245, 12, 112, 2286), (248, 12, 113, 2287), (251, 12, 114, 2288), (254, 12, 116, 2290), (257, 12, 117, 2291), (260, 12, 118, 2292), (263, 12, 119, 2293), (266, 12, 120, 2294), (269, 12, 121, 2295), (272, 12, 122, 2296), (275, 12, 128, 2302), (278, 12, 129, 2303), (281, 12, 0, 2174), (284, 12, 2, 2176), (467, 12, 5, 2179), (473, 12, 20, 2194), (486, 12, 31, 2205), (489, 12, 48, 2222), (492, 12, 32, 2206), (509, 12, 68, 2242), (519, 12, 4, 2178), (522, 12, 70, 2244), (528, 12, 69, 2243), (531, 12, 14, 2188), (557, 12, 98, 2272), (577, 12, 74, 2248), (601, 12, 50, 2224), (607, 12, 89, 2263), (614, 12, 88, 2262), (626, 12, 90, 2264), (630, 12, 15, 2189), (643, 12, 81, 2255), (650, 12, 84, 2258), (653, 12, 85, 2259), (656, 12, 86, 2260), (659, 12, 83, 2257), (662, 12, 87, 2261), (665, 12, 64, 2238), (674, 12, 80, 2254), (681, 12, 79, 2253), (696, 12, 82, 2256), (747, 12, 16, 2190), (799, 12, 43, 2217), (813, 12, 123, 2297), (816, 12, 126, 2300), (822, 12, 125, 2299), (825, 12, 124, 2298), (884, 12, 127, 2301), (916, 12, 101, 2275), (924, 12, 115, 2289), (936, 12, 103, 2277), (939, 12, 102, 2276), (942, 12, 104, 2278), (948, 12, 44, 2218)],
  [],
  [],
  [],
  [],
  [],
  [],
  [],
  []]
def pg_fk (oc : Nat) : List (Nat × Nat × Nat × Nat) := pg_fkL.getD oc []
def pg_mkL : List (List (Nat × Nat × Nat)) := [
  [(11, 166, 41), (34, 125, 73), (46, 121, 154), (63, 71, 275), (72, 160, 507), (81, 49, 540), (90, 39, 627), (99, 182, 653), (108, 100, 690), (129, 170, 1845), (138, 16, 1854), (142, 168, 1558), (145, 20, 1965), (150, 2, 800), (154, 183, 1572), (158, 6, 1669), (162, 23, 1984), (168, 124, 1991), (177, 123, 1993), (186, 198, 1681), (198, 203, 2010), (202, 101, 1722), (206, 102, 1730), (214, 105, 1753), (217, 117, 1757), (221, 119, 1563), (224, 103, 1758), (228, 27, 2036), (237, 206, 2060), (246, 126, 2085), (249, 127, 2086), (252, 208, 2094), (261, 28, 2040), (273, 133, 2122), (277, 57, 2131), (298, 106, 1763), (305, 108, 1785), (308, 110, 1803), (311, 111, 1812), (317, 177, 1868), (332, 38, 2156), (340, 99, 2160), (343, 61, 2164), (356, 72, 804), (359, 50, 1008), (362, 68, 1423), (365, 40, 1428), (368, 44, 1503), (374, 174, 1559), (381, 114, 1988), (384, 167, 1870), (387, 115, 1989), (393, 143, 1873), (400, 179, 1859), (404, 17, 1860), (408, 144, 1877), (412, 18, 1864)],
  [(30, 166, 633), (36, 41, 1432), (51, 42, 1471), (62, 171, 1452), (70, 57, 1475), (83, 43, 1476), (97, 172, 1481), (126, 69, 1486), (130, 173, 1499), (143, 124, 1436), (149, 168, 1437), (155, 169, 1443), (163, 170, 1463), (176, 61, 1467), (186, 58, 1480), (193, 94, 1507), (202, 97, 1508), (206, 139, 1509), (210, 130, 1510), (213, 45, 1511), (217, 128, 1515), (228, 98, 1528), (231, 46, 1529), (234, 47, 1540), (238, 48, 1546), (247, 54, 1545), (251, 80, 1550), (255, 141, 1551), (258, 96, 1555), (261, 140, 1556), (264, 165, 1557), (268, 70, 1533)],
  [(70, 51, 1012), (73, 52, 1036), (76, 56, 1355), (79, 60, 1376), (82, 57, 1362), (90, 165, 1410), (108, 122, 1414), (112, 66, 1415), (119, 161, 1016), (128, 77, 1022), (135, 162, 1023), (151, 378, 1043), (157, 94, 1328), (166, 97, 1329), (169, 139, 1333), (173, 130, 1334), (177, 53, 1335), (181, 128, 1339), (185, 98, 1340), (189, 54, 1346), (193, 55, 1351), (196, 80, 1350), (206, 70, 1490), (212, 380, 1359), (218, 58, 1366), (225, 90, 1372), (228, 59, 1373), (238, 61, 1380), (254, 62, 1391), (257, 63, 1395), (266, 64, 1399), (272, 65, 1403), (294, 67, 1419), (297, 136, 1494), (303, 140, 1495)],
  [(24, 121, 280), (46, 125, 362), (75, 113, 366), (95, 80, 905), (105, 94, 981), (112, 128, 900), (118, 77, 840), (124, 138, 985), (132, 73, 808), (138, 75, 832), (142, 84, 927), (148, 87, 950), (158, 88, 957), (162, 89, 961), (180, 122, 812), (184, 123, 816), (191, 74, 828), (200, 118, 945), (203, 85, 931), (210, 137, 935), (217, 133, 879), (220, 117, 883), (224, 124, 941), (227, 86, 942), (231, 76, 836), (235, 78, 871), (238, 79, 891), (241, 82, 913), (245, 126, 844), (265, 127, 848), (272, 129, 856), (287, 130, 863), (292, 131, 867), (304, 132, 875), (310, 134, 895), (315, 135, 901), (321, 81, 909), (325, 136, 917), (331, 83, 921), (343, 90, 965), (349, 91, 969), (353, 93, 977), (357, 92, 973), (360, 139, 993), (363, 95, 999), (367, 96, 1003)],
  [(12, 166, 696), (46, 179, 1768), (50, 177, 1738), (60, 180, 1775), (64, 107, 1780), (75, 168, 1789), (80, 174, 1790), (91, 109, 1791), (100, 104, 1743), (125, 167, 1747), (129, 178, 1748), (133, 103, 1734), (137, 101, 1807)],
  [(25, 114, 370), (28, 167, 887), (34, 115, 422), (91, 170, 1567)],
  [(43, 124, 820), (47, 116, 824)],
  [(63, 128, 852), (67, 134, 989), (73, 135, 991), (76, 126, 992), (80, 127, 997), (88, 132, 939), (92, 136, 940), (98, 145, 1881), (102, 146, 1888), (105, 148, 1897), (109, 150, 1915), (112, 152, 1925), (116, 154, 1937), (120, 156, 1951), (123, 157, 1956), (133, 147, 1892), (138, 130, 1902), (141, 142, 1903), (144, 149, 1904), (148, 129, 1909), (161, 151, 1919), (173, 153, 1931), (176, 140, 1936), (179, 178, 1935), (191, 378, 1943), (197, 138, 1944), (200, 139, 1945), (203, 155, 1946), (215, 158, 1960)],
  [],
  [(40, 167, 1027), (46, 163, 1028), (50, 164, 1032)],
  [(29, 167, 1742), (37, 170, 1447), (46, 381, 1459)],
  [(25, 166, 658), (41, 168, 1595), (50, 132, 2064), (54, 136, 1644), (60, 171, 1597), (64, 140, 1645), (68, 181, 2065), (74, 170, 1616), (78, 207, 2070), (88, 133, 1689), (91, 117, 1690), (95, 119, 1665), (102, 126, 2073), (123, 57, 2098), (134, 175, 1702), (154, 90, 1589), (163, 199, 1685), (167, 137, 1688), (177, 169, 1693), (181, 200, 1694), (185, 202, 1713), (194, 201, 1699), (198, 176, 1708), (210, 174, 1622), (216, 184, 1576), (219, 185, 1583), (227, 187, 1598), (230, 191, 1623), (233, 193, 1635), (236, 197, 1660), (239, 188, 1607), (246, 173, 1667), (255, 77, 1580), (265, 94, 1581), (272, 97, 1582), (275, 80, 1587), (292, 122, 1588), (296, 186, 1590), (303, 124, 1594), (307, 134, 1602), (310, 142, 1603), (313, 189, 1612), (317, 129, 1617), (320, 190, 1618), (328, 139, 1627), (331, 130, 1628), (336, 128, 1630), (340, 192, 1631), (350, 194, 1640), (353, 196, 1650), (364, 195, 1647), (368, 120, 1654), (372, 118, 1658), (391, 61, 2014), (394, 204, 2015), (398, 205, 2020), (404, 58, 2019)],
  [(287, 212, 2573), (291, 215, 2585), (295, 221, 2612), (299, 220, 2608), (304, 226, 2633), (313, 218, 2601), (317, 230, 2651), (320, 224, 2625), (323, 223, 2621), (326, 235, 2674), (329, 231, 2657), (332, 267, 2813), (343, 219, 2605), (347, 225, 2629), (353, 227, 2639), (356, 228, 2643), (366, 232, 2662), (369, 233, 2666), (372, 234, 2670), (375, 236, 2678), (380, 237, 2684), (383, 238, 2688), (386, 239, 2692), (405, 247, 2728), (408, 242, 2705), (411, 245, 2717), (415, 246, 2721), (419, 241, 2700), (422, 243, 2709), (425, 244, 2713), (431, 251, 2748), (435, 249, 2739), (438, 250, 2744), (441, 217, 2594), (445, 222, 2616), (448, 229, 2647), (451, 240, 2696), (454, 248, 2735), (461, 216, 2590), (464, 252, 2752), (470, 214, 2581), (476, 268, 2817), (479, 262, 2793), (483, 261, 2789), (495, 255, 2765), (499, 256, 2769), (503, 271, 2829), (506, 276, 2849), (513, 273, 2837), (516, 275, 2845), (525, 272, 2833), (534, 270, 2825), (538, 274, 2841), (541, 266, 2809), (544, 277, 2853), (548, 265, 2805), (551, 269, 2821), (554, 264, 2801), (560, 283, 2877), (563, 284, 2881), (567, 282, 2873), (570, 280, 2865), (574, 285, 2885), (580, 298, 2939), (585, 297, 2935), (588, 296, 2930), (591, 287, 2893), (594, 295, 2926), (597, 299, 2943), (604, 288, 2897), (610, 292, 2914), (617, 290, 2906), (620, 291, 2910), (623, 293, 2918), (633, 302, 2955), (636, 303, 2958), (639, 306, 2973), (646, 309, 2984), (670, 307, 2976), (677, 308, 2980), (686, 310, 2989), (690, 301, 2951), (693, 304, 2962), (703, 305, 2968), (709, 311, 2994), (712, 312, 2998), (716, 313, 3002), (719, 317, 3018), (722, 318, 3022), (725, 319, 3026), (732, 315, 3010), (736, 316, 3014), (739, 320, 3030), (743, 322, 3039), (750, 321, 3034), (762, 314, 3006), (766, 260, 2785), (769, 263, 2797), (772, 278, 2857), (775, 279, 2861), (778, 281, 2869), (781, 286, 2889), (784, 289, 2902), (787, 294, 2922), (790, 300, 2947), (793, 323, 3045), (796, 324, 3052), (802, 326, 3060), (805, 327, 3064), (810, 328, 3069), (819, 334, 3094), (828, 336, 3102), (831, 340, 3118), (835, 339, 3114), (838, 338, 3110), (841, 341, 3122), (844, 333, 3090), (847, 335, 3098), (850, 337, 3106), (853, 342, 3126), (856, 344, 3134), (859, 343, 3130), (863, 345, 3138), (866, 347, 3146), (869, 346, 3142), (873, 348, 3150), (877, 259, 3085), (881, 332, 3086), (887, 353, 3170), (890, 350, 3158), (893, 351, 3162), (896, 352, 3166), (899, 354, 3174), (904, 356, 3182), (907, 357, 3187), (910, 359, 3195), (913, 360, 3198), (919, 364, 3214), (927, 363, 3210), (930, 365, 3218), (933, 362, 3206), (945, 366, 3223), (951, 367, 3227), (955, 369, 3235)],
  [],
  [],
  [],
  [(7, 14, 1822), (17, 15, 1849), (21, 21, 1972), (24, 22, 1980), (28, 24, 1997), (31, 25, 2005), (34, 26, 2032), (40, 29, 2080), (44, 30, 2090), (47, 31, 2103), (51, 32, 2110), (55, 33, 2118), (58, 34, 2126), (61, 35, 2135), (65, 36, 2143), (68, 37, 2151), (71, 0, 33), (74, 209, 2167), (77, 382, 1817), (82, 211, 2569), (83, 383, 1846), (86, 213, 2577), (87, 384, 1969), (89, 253, 2757), (90, 1, 796), (94, 259, 2781), (95, 5, 1568), (98, 331, 3081), (99, 385, 1977), (102, 254, 2761), (103, 386, 1994), (105, 257, 2773), (106, 7, 1673), (109, 258, 2777), (110, 8, 1677), (113, 349, 3154), (114, 387, 2002), (116, 325, 3056), (117, 9, 1718), (121, 368, 3231), (122, 388, 2028), (125, 355, 3178), (126, 389, 2077), (129, 330, 3077), (130, 390, 2087), (132, 358, 3191), (133, 391, 2100), (135, 372, 3247), (136, 392, 2107), (138, 373, 3251), (139, 393, 2115), (141, 329, 3073), (142, 394, 2123), (144, 374, 3255), (145, 395, 2132), (148, 375, 3259), (149, 210, 2565), (152, 11, 1759), (155, 361, 3202), (156, 12, 1799), (159, 370, 3239), (160, 13, 1808), (163, 371, 3243), (164, 396, 2140), (166, 376, 3263), (167, 397, 2148), (169, 377, 3267)],
  [(13, 379, 1046)],
  [],
  [],
  []]
def pg_mk (oc : Nat) : List (Nat × Nat × Nat) := pg_mkL.getD oc []
def pg_mhL : List (List (Nat × Nat × Nat)) := [
  [(56, 112, 272)],
  [(224, 4, 1516)],
  [(25, 159, 545), (246, 3, 1386)],
  [(36, 159, 284), (65, 112, 364)],
  [(68, 10, 1726)],
  [],
  [(21, 112, 162)],
  [(56, 10, 1896), (151, 19, 1910), (207, 4, 1950)],
  [],
  [],
  [(33, 10, 1779)],
  [(344, 3, 1611)],
  [],
  [],
  [],
  [],
  [],
  [],
  [],
  [],
  []]
def pg_mh (oc : Nat) : List (Nat × Nat × Nat) := pg_mhL.getD oc []
def pg_nwL : List (List (Nat × Nat × Nat)) := [
  [(9, 10, 39), (28, 7, 70), (44, 6, 152), (54, 5, 271), (61, 3, 273), (70, 9, 505), (79, 2, 538), (88, 1, 625), (97, 11, 651), (106, 4, 688), (113, 13, 1826), (124, 14, 1829), (232, 15, 2044)],
  [(27, 10, 631)],
  [(19, 8, 544)],
  [(22, 6, 279), (30, 8, 281), (41, 7, 361), (53, 5, 363)],
  [(9, 10, 694)],
  [],
  [(13, 5, 159)],
  [],
  [],
  [],
  [],
  [(23, 10, 657)],
  [],
  [],
  [],
  [],
  [(8, 0, 31), (72, 12, 2165)],
  [(43, 13, 1049)],
  [],
  [],
  []]
def pg_nw (oc : Nat) : List (Nat × Nat × Nat) := pg_nwL.getD oc []
def pg_aqL : List (List (Nat × Nat × Nat)) := [
  [(28, 4, 70)],
  [],
  [(19, 6, 544)],
  [(30, 6, 281), (41, 4, 361), (53, 5, 363)],
  [],
  [],
  [(13, 5, 159)],
  [],
  [],
  [],
  [],
  [(35, 5, 659)],
  [],
  [],
  [],
  [],
  [],
  [],
  [],
  [],
  []]
def pg_aq (oc : Nat) : List (Nat × Nat × Nat) := pg_aqL.getD oc []
def pg_liL : List (List (Nat × Nat × Nat)) := [
  [(18, 0, 69)],
  [(29, 0, 632)],
  [],
  [(335, 1, 925), (338, 2, 926)],
  [(11, 0, 695)],
  [],
  [],
  [(171, 2, 1929), (172, 1, 1930)],
  [],
  [(15, 3, 511)],
  [(41, 4, 1706)],
  [(101, 1, 1659), (360, 2, 1646)],
  [(13, 0, 2171), (53, 5, 2172), (199, 6, 2173), (378, 2, 2682), (379, 1, 2683)],
  [],
  [],
  [],
  [],
  [],
  [],
  [],
  []]
def pg_li (oc : Nat) : List (Nat × Nat × Nat) := pg_liL.getD oc []
def pg_llL : List (List (Nat × Nat × Nat)) := [
  [(209, 9, 1752), (415, 11, 1869), (417, 12, 1871), (419, 13, 1872), (421, 10, 1729), (423, 14, 1913), (425, 0, 1519), (427, 1, 1520), (429, 2, 1521), (431, 3, 1522), (433, 4, 1523), (435, 5, 1524), (437, 6, 1525), (439, 7, 1526), (441, 8, 1527)],
  [(49, 14, 1470), (159, 15, 1451), (161, 1, 1462), (167, 16, 1464), (172, 17, 1465), (174, 18, 1466), (245, 25, 1544), (273, 19, 1534), (275, 20, 1535), (277, 21, 1536), (279, 22, 1537), (281, 23, 1538), (283, 24, 1539)],
  [(64, 28, 1427), (242, 26, 1384), (244, 15, 1385), (250, 14, 1389), (252, 27, 1390), (270, 25, 1408), (275, 9, 1409)],
  [(116, 30, 1007), (313, 29, 899), (370, 31, 1344), (372, 1, 1345)],
  [(54, 1, 1772), (56, 16, 1773), (58, 18, 1774), (71, 28, 1783), (73, 32, 1784), (104, 17, 1795), (106, 30, 1796), (114, 33, 1798), (141, 9, 1816)],
  [],
  [],
  [(71, 2, 990), (83, 30, 998), (129, 16, 1886), (131, 17, 1887), (136, 25, 1901), (155, 34, 1914), (157, 1, 1907), (159, 35, 1908), (164, 36, 1923), (166, 33, 1924), (210, 29, 1955), (218, 13, 1964)],
  [],
  [],
  [],
  [(72, 39, 2069), (99, 12, 1712), (143, 40, 2099), (192, 37, 1698), (202, 38, 1717), (214, 11, 1707), (222, 17, 1596), (250, 16, 1668), (323, 25, 1610), (334, 2, 1629), (348, 1, 1639), (389, 33, 1664), (401, 30, 2027), (424, 15, 2026)],
  [(302, 25, 2620), (307, 1, 2637), (309, 35, 2901), (311, 2, 2704), (335, 14, 2646), (337, 42, 2598), (339, 16, 2599), (341, 17, 2600), (351, 34, 2638), (360, 30, 2655), (362, 36, 2656), (364, 33, 2661), (389, 3, 2731), (391, 5, 2732), (393, 7, 2733), (395, 8, 2734), (397, 0, 2724), (399, 12, 2725), (401, 4, 2726), (403, 6, 2727), (429, 29, 2743), (457, 13, 2756), (459, 41, 2589), (583, 31, 2934), (668, 15, 2972), (684, 9, 2988), (699, 18, 2966), (701, 26, 2967), (707, 28, 2993), (728, 43, 3043), (730, 44, 3044), (754, 22, 3038), (756, 45, 3049), (758, 46, 3050), (760, 47, 3051), (808, 48, 3068), (902, 49, 3186), (922, 32, 3222)],
  [],
  [],
  [],
  [(75, 50, 3271)],
  [],
  [],
  [],
  []]
def pg_ll (oc : Nat) : List (Nat × Nat × Nat) := pg_llL.getD oc []
def pg_gsL : List (List (Nat × Nat × Nat)) := [
  [(397, 1, 1858)],
  [],
  [],
  [],
  [],
  [],
  [],
  [],
  [],
  [],
  [],
  [],
  [],
  [],
  [],
  [],
  [],
  [],
  [],
  [],
  []]
def pg_gs (oc : Nat) : List (Nat × Nat × Nat) := pg_gsL.getD oc []
def pg_ghL : List (List (Nat × Nat × Nat)) := [
  [],
  [(45, 2, 1468), (152, 3, 1441)],
  [(61, 5, 1370), (122, 4, 1020)],
  [],
  [(42, 3, 1767)],
  [],
  [],
  [(126, 3, 1885)],
  [],
  [],
  [],
  [(173, 1, 1691), (243, 3, 1666), (412, 6, 2024)],
  [],
  [],
  [],
  [],
  [],
  [],
  [],
  [],
  []]
def pg_gh (oc : Nat) : List (Nat × Nat × Nat) := pg_ghL.getD oc []
def pg_spLL : List (List (Nat × Nat × Nat)) := [
  [(3, 9006, 36), (117, 9011, 1828), (128, 9012, 1839), (236, 9013, 2054)],
  [(3, 9006, 630)],
  [(3, 9006, 543), (145, 9002, 1040), (289, 9003, 1407)],
  [(3, 9006, 278), (275, 9003, 860)],
  [(3, 9006, 693), (108, 9004, 1797)],
  [(3, 9006, 165), (38, 9007, 374), (43, 9008, 384)],
  [(1, 9006, 157), (7, 9001, 158)],
  [(3, 9006, 76), (183, 9001, 1941), (188, 9002, 1942)],
  [(1, 9006, 287)],
  [(3, 9006, 510)],
  [(3, 9006, 44), (9, 9001, 45), (42, 9004, 1456), (52, 9005, 1485)],
  [(3, 9006, 656), (108, 9007, 2075), (114, 9008, 2076)],
  [(1, 9006, 2170)],
  [],
  [],
  [],
  [],
  [(65, 9011, 1282)],
  [],
  [],
  []]
def pg_sp (oc : Nat) : List (Nat × Nat × Nat) := pg_spLL.getD oc []
def pg_spL : List (Nat × MethodName) := [(9001, ⟨"java/lang/Math", "max", "(II)I"⟩), (9002, ⟨"java/lang/Math", "min", "(II)I"⟩), (9003, ⟨"java/lang/Math", "max", "(JJ)J"⟩), (9004, ⟨"java/lang/Math", "min", "(JJ)J"⟩), (9005, ⟨"java/lang/System", "arraycopy", "(Ljava/lang/Object;ILjava/lang/Object;II)V"⟩), (9006, ⟨"java/lang/Object", "<init>", "()V"⟩), (9007, ⟨"java/lang/String", "length", "()I"⟩), (9008, ⟨"java/lang/String", "charAt", "(I)C"⟩), (9011, ⟨"java/lang/IllegalArgumentException", "<init>", "(Ljava/lang/String;)V"⟩), (9012, ⟨"java/lang/IllegalStateException", "<init>", "(Ljava/lang/String;)V"⟩), (9013, ⟨"java/util/NoSuchElementException", "<init>", "(Ljava/lang/String;)V"⟩)]
def pg_spn (s : Nat) : MethodName := match pg_spL.find? (fun z => z.1 == s) with
  | some z => z.2
  | none => ⟨"", "", ""⟩
def pg_okw (i : Nat) (w : Cond) : Bool := decide (pg_tb i = some w) && goodWord w
theorem pg_okw_in {i : Nat} {w : Cond} (h : pg_okw i w = true) : w ∈ pg_Ts := by
  simp only [pg_okw, Bool.and_eq_true, decide_eq_true_eq] at h
  exact pg_at h.1 h.2
def pg_okn (i : Nat) (w : Cond) : Bool := decide (pg_tb i = some w) && decide (i ∈ pg_nsx)
theorem pg_okn_in {i : Nat} {w : Cond} (h : pg_okn i w = true) : w ∈ pg_Ns := by
  simp only [pg_okn, Bool.and_eq_true, decide_eq_true_eq] at h
  exact List.mem_filterMap.mpr ⟨i, h.2, h.1⟩
def pg_cfk (oc : Nat) (z : Nat × Nat × Nat × Nat) : Bool := decide (z.2.1 < 16) && (decide (z.2.2.1 < pg_nf z.2.1) && pg_okw z.2.2.2 (.fieldLink (pg_cn oc) z.1 (pg_T z.2.1 z.2.2.1).1 (pg_T z.2.1 z.2.2.1).2.1 (pg_T z.2.1 z.2.2.1).2.2.1))
theorem pg_cfk_0 : ∀ z ∈ pg_fk 0, pg_cfk 0 z = true := by decide +kernel
theorem pg_cfk_1 : ∀ z ∈ pg_fk 1, pg_cfk 1 z = true := by decide +kernel
theorem pg_cfk_2 : ∀ z ∈ pg_fk 2, pg_cfk 2 z = true := by decide +kernel
theorem pg_cfk_3 : ∀ z ∈ pg_fk 3, pg_cfk 3 z = true := by decide +kernel
theorem pg_cfk_4 : ∀ z ∈ pg_fk 4, pg_cfk 4 z = true := by decide +kernel
theorem pg_cfk_5 : ∀ z ∈ pg_fk 5, pg_cfk 5 z = true := by decide +kernel
theorem pg_cfk_6 : ∀ z ∈ pg_fk 6, pg_cfk 6 z = true := by decide +kernel
theorem pg_cfk_7 : ∀ z ∈ pg_fk 7, pg_cfk 7 z = true := by decide +kernel
theorem pg_cfk_8 : ∀ z ∈ pg_fk 8, pg_cfk 8 z = true := by decide +kernel
theorem pg_cfk_9 : ∀ z ∈ pg_fk 9, pg_cfk 9 z = true := by decide +kernel
theorem pg_cfk_10 : ∀ z ∈ pg_fk 10, pg_cfk 10 z = true := by decide +kernel
theorem pg_cfk_11 : ∀ z ∈ pg_fk 11, pg_cfk 11 z = true := by decide +kernel
theorem pg_cfk_12 : ∀ z ∈ pg_fk 12, pg_cfk 12 z = true := by decide +kernel
theorem pg_cfk_13 : ∀ z ∈ pg_fk 13, pg_cfk 13 z = true := by decide +kernel
theorem pg_cfk_14 : ∀ z ∈ pg_fk 14, pg_cfk 14 z = true := by decide +kernel
theorem pg_cfk_15 : ∀ z ∈ pg_fk 15, pg_cfk 15 z = true := by decide +kernel
theorem pg_cfk_16 : ∀ z ∈ pg_fk 16, pg_cfk 16 z = true := by decide +kernel
theorem pg_cfk_17 : ∀ z ∈ pg_fk 17, pg_cfk 17 z = true := by decide +kernel
theorem pg_cfk_18 : ∀ z ∈ pg_fk 18, pg_cfk 18 z = true := by decide +kernel
theorem pg_cfk_19 : ∀ z ∈ pg_fk 19, pg_cfk 19 z = true := by decide +kernel
theorem pg_cfk_20 : ∀ z ∈ pg_fk 20, pg_cfk 20 z = true := by decide +kernel
theorem pg_cfk_ok : ∀ oc ∈ List.range 21, ∀ z ∈ pg_fk oc, pg_cfk oc z = true := by
  have h : ∀ oc ∈ [0, 1, 2, 3, 4, 5, 6, 7, 8, 9, 10, 11, 12, 13, 14, 15, 16, 17, 18, 19, 20], ∀ z ∈ pg_fk oc, pg_cfk oc z = true := by
    simp only [List.forall_mem_cons]
    exact ⟨pg_cfk_0, pg_cfk_1, pg_cfk_2, pg_cfk_3, pg_cfk_4, pg_cfk_5, pg_cfk_6, pg_cfk_7, pg_cfk_8, pg_cfk_9, pg_cfk_10, pg_cfk_11, pg_cfk_12, pg_cfk_13, pg_cfk_14, pg_cfk_15, pg_cfk_16, pg_cfk_17, pg_cfk_18, pg_cfk_19, pg_cfk_20, fun _ h => absurd h List.not_mem_nil⟩
  exact h
def pg_cmk (oc : Nat) (z : Nat × Nat × Nat) : Bool := pg_okw z.2.2 (.methodLink (pg_cn oc) z.1 (pg_mn z.2.1))
theorem pg_cmk_0 : ∀ z ∈ pg_mk 0, pg_cmk 0 z = true := by decide +kernel
theorem pg_cmk_1 : ∀ z ∈ pg_mk 1, pg_cmk 1 z = true := by decide +kernel
theorem pg_cmk_2 : ∀ z ∈ pg_mk 2, pg_cmk 2 z = true := by decide +kernel
theorem pg_cmk_3 : ∀ z ∈ pg_mk 3, pg_cmk 3 z = true := by decide +kernel
theorem pg_cmk_4 : ∀ z ∈ pg_mk 4, pg_cmk 4 z = true := by decide +kernel
theorem pg_cmk_5 : ∀ z ∈ pg_mk 5, pg_cmk 5 z = true := by decide +kernel
theorem pg_cmk_6 : ∀ z ∈ pg_mk 6, pg_cmk 6 z = true := by decide +kernel
theorem pg_cmk_7 : ∀ z ∈ pg_mk 7, pg_cmk 7 z = true := by decide +kernel
theorem pg_cmk_8 : ∀ z ∈ pg_mk 8, pg_cmk 8 z = true := by decide +kernel
theorem pg_cmk_9 : ∀ z ∈ pg_mk 9, pg_cmk 9 z = true := by decide +kernel
theorem pg_cmk_10 : ∀ z ∈ pg_mk 10, pg_cmk 10 z = true := by decide +kernel
theorem pg_cmk_11 : ∀ z ∈ pg_mk 11, pg_cmk 11 z = true := by decide +kernel
theorem pg_cmk_12 : ∀ z ∈ pg_mk 12, pg_cmk 12 z = true := by decide +kernel
theorem pg_cmk_13 : ∀ z ∈ pg_mk 13, pg_cmk 13 z = true := by decide +kernel
theorem pg_cmk_14 : ∀ z ∈ pg_mk 14, pg_cmk 14 z = true := by decide +kernel
theorem pg_cmk_15 : ∀ z ∈ pg_mk 15, pg_cmk 15 z = true := by decide +kernel
theorem pg_cmk_16 : ∀ z ∈ pg_mk 16, pg_cmk 16 z = true := by decide +kernel
theorem pg_cmk_17 : ∀ z ∈ pg_mk 17, pg_cmk 17 z = true := by decide +kernel
theorem pg_cmk_18 : ∀ z ∈ pg_mk 18, pg_cmk 18 z = true := by decide +kernel
theorem pg_cmk_19 : ∀ z ∈ pg_mk 19, pg_cmk 19 z = true := by decide +kernel
theorem pg_cmk_20 : ∀ z ∈ pg_mk 20, pg_cmk 20 z = true := by decide +kernel
theorem pg_cmk_ok : ∀ oc ∈ List.range 21, ∀ z ∈ pg_mk oc, pg_cmk oc z = true := by
  have h : ∀ oc ∈ [0, 1, 2, 3, 4, 5, 6, 7, 8, 9, 10, 11, 12, 13, 14, 15, 16, 17, 18, 19, 20], ∀ z ∈ pg_mk oc, pg_cmk oc z = true := by
    simp only [List.forall_mem_cons]
    exact ⟨pg_cmk_0, pg_cmk_1, pg_cmk_2, pg_cmk_3, pg_cmk_4, pg_cmk_5, pg_cmk_6, pg_cmk_7, pg_cmk_8, pg_cmk_9, pg_cmk_10, pg_cmk_11, pg_cmk_12, pg_cmk_13, pg_cmk_14, pg_cmk_15, pg_cmk_16, pg_cmk_17, pg_cmk_18, pg_cmk_19, pg_cmk_20, fun _ h => absurd h List.not_mem_nil⟩
  exact h
def pg_cmh (oc : Nat) (z : Nat × Nat × Nat) : Bool := pg_okn z.2.2 (.methodLinkNest (pg_cn oc) z.1 (pg_mn z.2.1) "LinkHouse")
theorem pg_cmh_0 : ∀ z ∈ pg_mh 0, pg_cmh 0 z = true := by decide +kernel
theorem pg_cmh_1 : ∀ z ∈ pg_mh 1, pg_cmh 1 z = true := by decide +kernel
theorem pg_cmh_2 : ∀ z ∈ pg_mh 2, pg_cmh 2 z = true := by decide +kernel
theorem pg_cmh_3 : ∀ z ∈ pg_mh 3, pg_cmh 3 z = true := by decide +kernel
theorem pg_cmh_4 : ∀ z ∈ pg_mh 4, pg_cmh 4 z = true := by decide +kernel
theorem pg_cmh_5 : ∀ z ∈ pg_mh 5, pg_cmh 5 z = true := by decide +kernel
theorem pg_cmh_6 : ∀ z ∈ pg_mh 6, pg_cmh 6 z = true := by decide +kernel
theorem pg_cmh_7 : ∀ z ∈ pg_mh 7, pg_cmh 7 z = true := by decide +kernel
theorem pg_cmh_8 : ∀ z ∈ pg_mh 8, pg_cmh 8 z = true := by decide +kernel
theorem pg_cmh_9 : ∀ z ∈ pg_mh 9, pg_cmh 9 z = true := by decide +kernel
theorem pg_cmh_10 : ∀ z ∈ pg_mh 10, pg_cmh 10 z = true := by decide +kernel
theorem pg_cmh_11 : ∀ z ∈ pg_mh 11, pg_cmh 11 z = true := by decide +kernel
theorem pg_cmh_12 : ∀ z ∈ pg_mh 12, pg_cmh 12 z = true := by decide +kernel
theorem pg_cmh_13 : ∀ z ∈ pg_mh 13, pg_cmh 13 z = true := by decide +kernel
theorem pg_cmh_14 : ∀ z ∈ pg_mh 14, pg_cmh 14 z = true := by decide +kernel
theorem pg_cmh_15 : ∀ z ∈ pg_mh 15, pg_cmh 15 z = true := by decide +kernel
theorem pg_cmh_16 : ∀ z ∈ pg_mh 16, pg_cmh 16 z = true := by decide +kernel
theorem pg_cmh_17 : ∀ z ∈ pg_mh 17, pg_cmh 17 z = true := by decide +kernel
theorem pg_cmh_18 : ∀ z ∈ pg_mh 18, pg_cmh 18 z = true := by decide +kernel
theorem pg_cmh_19 : ∀ z ∈ pg_mh 19, pg_cmh 19 z = true := by decide +kernel
theorem pg_cmh_20 : ∀ z ∈ pg_mh 20, pg_cmh 20 z = true := by decide +kernel
theorem pg_cmh_ok : ∀ oc ∈ List.range 21, ∀ z ∈ pg_mh oc, pg_cmh oc z = true := by
  have h : ∀ oc ∈ [0, 1, 2, 3, 4, 5, 6, 7, 8, 9, 10, 11, 12, 13, 14, 15, 16, 17, 18, 19, 20], ∀ z ∈ pg_mh oc, pg_cmh oc z = true := by
    simp only [List.forall_mem_cons]
    exact ⟨pg_cmh_0, pg_cmh_1, pg_cmh_2, pg_cmh_3, pg_cmh_4, pg_cmh_5, pg_cmh_6, pg_cmh_7, pg_cmh_8, pg_cmh_9, pg_cmh_10, pg_cmh_11, pg_cmh_12, pg_cmh_13, pg_cmh_14, pg_cmh_15, pg_cmh_16, pg_cmh_17, pg_cmh_18, pg_cmh_19, pg_cmh_20, fun _ h => absurd h List.not_mem_nil⟩
  exact h
def pg_csp (oc : Nat) (z : Nat × Nat × Nat) : Bool := pg_okw z.2.2 (.methodLink (pg_cn oc) z.1 (pg_spn z.2.1))
theorem pg_csp_0 : ∀ z ∈ pg_sp 0, pg_csp 0 z = true := by decide +kernel
theorem pg_csp_1 : ∀ z ∈ pg_sp 1, pg_csp 1 z = true := by decide +kernel
theorem pg_csp_2 : ∀ z ∈ pg_sp 2, pg_csp 2 z = true := by decide +kernel
theorem pg_csp_3 : ∀ z ∈ pg_sp 3, pg_csp 3 z = true := by decide +kernel
theorem pg_csp_4 : ∀ z ∈ pg_sp 4, pg_csp 4 z = true := by decide +kernel
theorem pg_csp_5 : ∀ z ∈ pg_sp 5, pg_csp 5 z = true := by decide +kernel
theorem pg_csp_6 : ∀ z ∈ pg_sp 6, pg_csp 6 z = true := by decide +kernel
theorem pg_csp_7 : ∀ z ∈ pg_sp 7, pg_csp 7 z = true := by decide +kernel
theorem pg_csp_8 : ∀ z ∈ pg_sp 8, pg_csp 8 z = true := by decide +kernel
theorem pg_csp_9 : ∀ z ∈ pg_sp 9, pg_csp 9 z = true := by decide +kernel
theorem pg_csp_10 : ∀ z ∈ pg_sp 10, pg_csp 10 z = true := by decide +kernel
theorem pg_csp_11 : ∀ z ∈ pg_sp 11, pg_csp 11 z = true := by decide +kernel
theorem pg_csp_12 : ∀ z ∈ pg_sp 12, pg_csp 12 z = true := by decide +kernel
theorem pg_csp_13 : ∀ z ∈ pg_sp 13, pg_csp 13 z = true := by decide +kernel
theorem pg_csp_14 : ∀ z ∈ pg_sp 14, pg_csp 14 z = true := by decide +kernel
theorem pg_csp_15 : ∀ z ∈ pg_sp 15, pg_csp 15 z = true := by decide +kernel
theorem pg_csp_16 : ∀ z ∈ pg_sp 16, pg_csp 16 z = true := by decide +kernel
theorem pg_csp_17 : ∀ z ∈ pg_sp 17, pg_csp 17 z = true := by decide +kernel
theorem pg_csp_18 : ∀ z ∈ pg_sp 18, pg_csp 18 z = true := by decide +kernel
theorem pg_csp_19 : ∀ z ∈ pg_sp 19, pg_csp 19 z = true := by decide +kernel
theorem pg_csp_20 : ∀ z ∈ pg_sp 20, pg_csp 20 z = true := by decide +kernel
theorem pg_csp_ok : ∀ oc ∈ List.range 21, ∀ z ∈ pg_sp oc, pg_csp oc z = true := by
  have h : ∀ oc ∈ [0, 1, 2, 3, 4, 5, 6, 7, 8, 9, 10, 11, 12, 13, 14, 15, 16, 17, 18, 19, 20], ∀ z ∈ pg_sp oc, pg_csp oc z = true := by
    simp only [List.forall_mem_cons]
    exact ⟨pg_csp_0, pg_csp_1, pg_csp_2, pg_csp_3, pg_csp_4, pg_csp_5, pg_csp_6, pg_csp_7, pg_csp_8, pg_csp_9, pg_csp_10, pg_csp_11, pg_csp_12, pg_csp_13, pg_csp_14, pg_csp_15, pg_csp_16, pg_csp_17, pg_csp_18, pg_csp_19, pg_csp_20, fun _ h => absurd h List.not_mem_nil⟩
  exact h
def pg_cnw (oc : Nat) (z : Nat × Nat × Nat) : Bool := decide (z.2.1 < 16) && pg_okw z.2.2 (.classLink (pg_cn oc) z.1 (pg_cn z.2.1))
theorem pg_cnw_0 : ∀ z ∈ pg_nw 0, pg_cnw 0 z = true := by decide +kernel
theorem pg_cnw_1 : ∀ z ∈ pg_nw 1, pg_cnw 1 z = true := by decide +kernel
theorem pg_cnw_2 : ∀ z ∈ pg_nw 2, pg_cnw 2 z = true := by decide +kernel
theorem pg_cnw_3 : ∀ z ∈ pg_nw 3, pg_cnw 3 z = true := by decide +kernel
theorem pg_cnw_4 : ∀ z ∈ pg_nw 4, pg_cnw 4 z = true := by decide +kernel
theorem pg_cnw_5 : ∀ z ∈ pg_nw 5, pg_cnw 5 z = true := by decide +kernel
theorem pg_cnw_6 : ∀ z ∈ pg_nw 6, pg_cnw 6 z = true := by decide +kernel
theorem pg_cnw_7 : ∀ z ∈ pg_nw 7, pg_cnw 7 z = true := by decide +kernel
theorem pg_cnw_8 : ∀ z ∈ pg_nw 8, pg_cnw 8 z = true := by decide +kernel
theorem pg_cnw_9 : ∀ z ∈ pg_nw 9, pg_cnw 9 z = true := by decide +kernel
theorem pg_cnw_10 : ∀ z ∈ pg_nw 10, pg_cnw 10 z = true := by decide +kernel
theorem pg_cnw_11 : ∀ z ∈ pg_nw 11, pg_cnw 11 z = true := by decide +kernel
theorem pg_cnw_12 : ∀ z ∈ pg_nw 12, pg_cnw 12 z = true := by decide +kernel
theorem pg_cnw_13 : ∀ z ∈ pg_nw 13, pg_cnw 13 z = true := by decide +kernel
theorem pg_cnw_14 : ∀ z ∈ pg_nw 14, pg_cnw 14 z = true := by decide +kernel
theorem pg_cnw_15 : ∀ z ∈ pg_nw 15, pg_cnw 15 z = true := by decide +kernel
theorem pg_cnw_16 : ∀ z ∈ pg_nw 16, pg_cnw 16 z = true := by decide +kernel
theorem pg_cnw_17 : ∀ z ∈ pg_nw 17, pg_cnw 17 z = true := by decide +kernel
theorem pg_cnw_18 : ∀ z ∈ pg_nw 18, pg_cnw 18 z = true := by decide +kernel
theorem pg_cnw_19 : ∀ z ∈ pg_nw 19, pg_cnw 19 z = true := by decide +kernel
theorem pg_cnw_20 : ∀ z ∈ pg_nw 20, pg_cnw 20 z = true := by decide +kernel
theorem pg_cnw_ok : ∀ oc ∈ List.range 21, ∀ z ∈ pg_nw oc, pg_cnw oc z = true := by
  have h : ∀ oc ∈ [0, 1, 2, 3, 4, 5, 6, 7, 8, 9, 10, 11, 12, 13, 14, 15, 16, 17, 18, 19, 20], ∀ z ∈ pg_nw oc, pg_cnw oc z = true := by
    simp only [List.forall_mem_cons]
    exact ⟨pg_cnw_0, pg_cnw_1, pg_cnw_2, pg_cnw_3, pg_cnw_4, pg_cnw_5, pg_cnw_6, pg_cnw_7, pg_cnw_8, pg_cnw_9, pg_cnw_10, pg_cnw_11, pg_cnw_12, pg_cnw_13, pg_cnw_14, pg_cnw_15, pg_cnw_16, pg_cnw_17, pg_cnw_18, pg_cnw_19, pg_cnw_20, fun _ h => absurd h List.not_mem_nil⟩
  exact h
def pg_caq (oc : Nat) (z : Nat × Nat × Nat) : Bool := match pg_ty[z.2.1]? with
    | some (.object C) => decide (C ∈ pg_Ao) && pg_okw z.2.2 (.classLink (pg_cn oc) z.1 C)
    | _ => false
theorem pg_caq_0 : ∀ z ∈ pg_aq 0, pg_caq 0 z = true := by decide +kernel
theorem pg_caq_1 : ∀ z ∈ pg_aq 1, pg_caq 1 z = true := by decide +kernel
theorem pg_caq_2 : ∀ z ∈ pg_aq 2, pg_caq 2 z = true := by decide +kernel
theorem pg_caq_3 : ∀ z ∈ pg_aq 3, pg_caq 3 z = true := by decide +kernel
theorem pg_caq_4 : ∀ z ∈ pg_aq 4, pg_caq 4 z = true := by decide +kernel
theorem pg_caq_5 : ∀ z ∈ pg_aq 5, pg_caq 5 z = true := by decide +kernel
theorem pg_caq_6 : ∀ z ∈ pg_aq 6, pg_caq 6 z = true := by decide +kernel
theorem pg_caq_7 : ∀ z ∈ pg_aq 7, pg_caq 7 z = true := by decide +kernel
theorem pg_caq_8 : ∀ z ∈ pg_aq 8, pg_caq 8 z = true := by decide +kernel
theorem pg_caq_9 : ∀ z ∈ pg_aq 9, pg_caq 9 z = true := by decide +kernel
theorem pg_caq_10 : ∀ z ∈ pg_aq 10, pg_caq 10 z = true := by decide +kernel
theorem pg_caq_11 : ∀ z ∈ pg_aq 11, pg_caq 11 z = true := by decide +kernel
theorem pg_caq_12 : ∀ z ∈ pg_aq 12, pg_caq 12 z = true := by decide +kernel
theorem pg_caq_13 : ∀ z ∈ pg_aq 13, pg_caq 13 z = true := by decide +kernel
theorem pg_caq_14 : ∀ z ∈ pg_aq 14, pg_caq 14 z = true := by decide +kernel
theorem pg_caq_15 : ∀ z ∈ pg_aq 15, pg_caq 15 z = true := by decide +kernel
theorem pg_caq_16 : ∀ z ∈ pg_aq 16, pg_caq 16 z = true := by decide +kernel
theorem pg_caq_17 : ∀ z ∈ pg_aq 17, pg_caq 17 z = true := by decide +kernel
theorem pg_caq_18 : ∀ z ∈ pg_aq 18, pg_caq 18 z = true := by decide +kernel
theorem pg_caq_19 : ∀ z ∈ pg_aq 19, pg_caq 19 z = true := by decide +kernel
theorem pg_caq_20 : ∀ z ∈ pg_aq 20, pg_caq 20 z = true := by decide +kernel
theorem pg_caq_ok : ∀ oc ∈ List.range 21, ∀ z ∈ pg_aq oc, pg_caq oc z = true := by
  have h : ∀ oc ∈ [0, 1, 2, 3, 4, 5, 6, 7, 8, 9, 10, 11, 12, 13, 14, 15, 16, 17, 18, 19, 20], ∀ z ∈ pg_aq oc, pg_caq oc z = true := by
    simp only [List.forall_mem_cons]
    exact ⟨pg_caq_0, pg_caq_1, pg_caq_2, pg_caq_3, pg_caq_4, pg_caq_5, pg_caq_6, pg_caq_7, pg_caq_8, pg_caq_9, pg_caq_10, pg_caq_11, pg_caq_12, pg_caq_13, pg_caq_14, pg_caq_15, pg_caq_16, pg_caq_17, pg_caq_18, pg_caq_19, pg_caq_20, fun _ h => absurd h List.not_mem_nil⟩
  exact h
def pg_cli (oc : Nat) (z : Nat × Nat × Nat) : Bool := match pg_ki[z.2.1]? with
    | some v => pg_okw z.2.2 (.constant (pg_cn oc) z.1 v)
    | none => false
theorem pg_cli_0 : ∀ z ∈ pg_li 0, pg_cli 0 z = true := by decide +kernel
theorem pg_cli_1 : ∀ z ∈ pg_li 1, pg_cli 1 z = true := by decide +kernel
theorem pg_cli_2 : ∀ z ∈ pg_li 2, pg_cli 2 z = true := by decide +kernel
theorem pg_cli_3 : ∀ z ∈ pg_li 3, pg_cli 3 z = true := by decide +kernel
theorem pg_cli_4 : ∀ z ∈ pg_li 4, pg_cli 4 z = true := by decide +kernel
theorem pg_cli_5 : ∀ z ∈ pg_li 5, pg_cli 5 z = true := by decide +kernel
theorem pg_cli_6 : ∀ z ∈ pg_li 6, pg_cli 6 z = true := by decide +kernel
theorem pg_cli_7 : ∀ z ∈ pg_li 7, pg_cli 7 z = true := by decide +kernel
theorem pg_cli_8 : ∀ z ∈ pg_li 8, pg_cli 8 z = true := by decide +kernel
theorem pg_cli_9 : ∀ z ∈ pg_li 9, pg_cli 9 z = true := by decide +kernel
theorem pg_cli_10 : ∀ z ∈ pg_li 10, pg_cli 10 z = true := by decide +kernel
theorem pg_cli_11 : ∀ z ∈ pg_li 11, pg_cli 11 z = true := by decide +kernel
theorem pg_cli_12 : ∀ z ∈ pg_li 12, pg_cli 12 z = true := by decide +kernel
theorem pg_cli_13 : ∀ z ∈ pg_li 13, pg_cli 13 z = true := by decide +kernel
theorem pg_cli_14 : ∀ z ∈ pg_li 14, pg_cli 14 z = true := by decide +kernel
theorem pg_cli_15 : ∀ z ∈ pg_li 15, pg_cli 15 z = true := by decide +kernel
theorem pg_cli_16 : ∀ z ∈ pg_li 16, pg_cli 16 z = true := by decide +kernel
theorem pg_cli_17 : ∀ z ∈ pg_li 17, pg_cli 17 z = true := by decide +kernel
theorem pg_cli_18 : ∀ z ∈ pg_li 18, pg_cli 18 z = true := by decide +kernel
theorem pg_cli_19 : ∀ z ∈ pg_li 19, pg_cli 19 z = true := by decide +kernel
theorem pg_cli_20 : ∀ z ∈ pg_li 20, pg_cli 20 z = true := by decide +kernel
theorem pg_cli_ok : ∀ oc ∈ List.range 21, ∀ z ∈ pg_li oc, pg_cli oc z = true := by
  have h : ∀ oc ∈ [0, 1, 2, 3, 4, 5, 6, 7, 8, 9, 10, 11, 12, 13, 14, 15, 16, 17, 18, 19, 20], ∀ z ∈ pg_li oc, pg_cli oc z = true := by
    simp only [List.forall_mem_cons]
    exact ⟨pg_cli_0, pg_cli_1, pg_cli_2, pg_cli_3, pg_cli_4, pg_cli_5, pg_cli_6, pg_cli_7, pg_cli_8, pg_cli_9, pg_cli_10, pg_cli_11, pg_cli_12, pg_cli_13, pg_cli_14, pg_cli_15, pg_cli_16, pg_cli_17, pg_cli_18, pg_cli_19, pg_cli_20, fun _ h => absurd h List.not_mem_nil⟩
  exact h
def pg_cll (oc : Nat) (z : Nat × Nat × Nat) : Bool := match pg_kl[z.2.1]? with
    | some v => pg_okw z.2.2 (.constantLong (pg_cn oc) z.1 v)
    | none => false
theorem pg_cll_0 : ∀ z ∈ pg_ll 0, pg_cll 0 z = true := by decide +kernel
theorem pg_cll_1 : ∀ z ∈ pg_ll 1, pg_cll 1 z = true := by decide +kernel
theorem pg_cll_2 : ∀ z ∈ pg_ll 2, pg_cll 2 z = true := by decide +kernel
theorem pg_cll_3 : ∀ z ∈ pg_ll 3, pg_cll 3 z = true := by decide +kernel
theorem pg_cll_4 : ∀ z ∈ pg_ll 4, pg_cll 4 z = true := by decide +kernel
theorem pg_cll_5 : ∀ z ∈ pg_ll 5, pg_cll 5 z = true := by decide +kernel
theorem pg_cll_6 : ∀ z ∈ pg_ll 6, pg_cll 6 z = true := by decide +kernel
theorem pg_cll_7 : ∀ z ∈ pg_ll 7, pg_cll 7 z = true := by decide +kernel
theorem pg_cll_8 : ∀ z ∈ pg_ll 8, pg_cll 8 z = true := by decide +kernel
theorem pg_cll_9 : ∀ z ∈ pg_ll 9, pg_cll 9 z = true := by decide +kernel
theorem pg_cll_10 : ∀ z ∈ pg_ll 10, pg_cll 10 z = true := by decide +kernel
theorem pg_cll_11 : ∀ z ∈ pg_ll 11, pg_cll 11 z = true := by decide +kernel
theorem pg_cll_12 : ∀ z ∈ pg_ll 12, pg_cll 12 z = true := by decide +kernel
theorem pg_cll_13 : ∀ z ∈ pg_ll 13, pg_cll 13 z = true := by decide +kernel
theorem pg_cll_14 : ∀ z ∈ pg_ll 14, pg_cll 14 z = true := by decide +kernel
theorem pg_cll_15 : ∀ z ∈ pg_ll 15, pg_cll 15 z = true := by decide +kernel
theorem pg_cll_16 : ∀ z ∈ pg_ll 16, pg_cll 16 z = true := by decide +kernel
theorem pg_cll_17 : ∀ z ∈ pg_ll 17, pg_cll 17 z = true := by decide +kernel
theorem pg_cll_18 : ∀ z ∈ pg_ll 18, pg_cll 18 z = true := by decide +kernel
theorem pg_cll_19 : ∀ z ∈ pg_ll 19, pg_cll 19 z = true := by decide +kernel
theorem pg_cll_20 : ∀ z ∈ pg_ll 20, pg_cll 20 z = true := by decide +kernel
theorem pg_cll_ok : ∀ oc ∈ List.range 21, ∀ z ∈ pg_ll oc, pg_cll oc z = true := by
  have h : ∀ oc ∈ [0, 1, 2, 3, 4, 5, 6, 7, 8, 9, 10, 11, 12, 13, 14, 15, 16, 17, 18, 19, 20], ∀ z ∈ pg_ll oc, pg_cll oc z = true := by
    simp only [List.forall_mem_cons]
    exact ⟨pg_cll_0, pg_cll_1, pg_cll_2, pg_cll_3, pg_cll_4, pg_cll_5, pg_cll_6, pg_cll_7, pg_cll_8, pg_cll_9, pg_cll_10, pg_cll_11, pg_cll_12, pg_cll_13, pg_cll_14, pg_cll_15, pg_cll_16, pg_cll_17, pg_cll_18, pg_cll_19, pg_cll_20, fun _ h => absurd h List.not_mem_nil⟩
  exact h
def pg_cgs (oc : Nat) (z : Nat × Nat × Nat) : Bool := match pg_sf[z.2.1 - 1]? with
    | some f => decide (f.2.2.2 = z.2.1) && pg_okw z.2.2 (.fieldLink (pg_cn oc) z.1 f.1 f.2.1 f.2.2.1)
    | none => false
theorem pg_cgs_0 : ∀ z ∈ pg_gs 0, pg_cgs 0 z = true := by decide +kernel
theorem pg_cgs_1 : ∀ z ∈ pg_gs 1, pg_cgs 1 z = true := by decide +kernel
theorem pg_cgs_2 : ∀ z ∈ pg_gs 2, pg_cgs 2 z = true := by decide +kernel
theorem pg_cgs_3 : ∀ z ∈ pg_gs 3, pg_cgs 3 z = true := by decide +kernel
theorem pg_cgs_4 : ∀ z ∈ pg_gs 4, pg_cgs 4 z = true := by decide +kernel
theorem pg_cgs_5 : ∀ z ∈ pg_gs 5, pg_cgs 5 z = true := by decide +kernel
theorem pg_cgs_6 : ∀ z ∈ pg_gs 6, pg_cgs 6 z = true := by decide +kernel
theorem pg_cgs_7 : ∀ z ∈ pg_gs 7, pg_cgs 7 z = true := by decide +kernel
theorem pg_cgs_8 : ∀ z ∈ pg_gs 8, pg_cgs 8 z = true := by decide +kernel
theorem pg_cgs_9 : ∀ z ∈ pg_gs 9, pg_cgs 9 z = true := by decide +kernel
theorem pg_cgs_10 : ∀ z ∈ pg_gs 10, pg_cgs 10 z = true := by decide +kernel
theorem pg_cgs_11 : ∀ z ∈ pg_gs 11, pg_cgs 11 z = true := by decide +kernel
theorem pg_cgs_12 : ∀ z ∈ pg_gs 12, pg_cgs 12 z = true := by decide +kernel
theorem pg_cgs_13 : ∀ z ∈ pg_gs 13, pg_cgs 13 z = true := by decide +kernel
theorem pg_cgs_14 : ∀ z ∈ pg_gs 14, pg_cgs 14 z = true := by decide +kernel
theorem pg_cgs_15 : ∀ z ∈ pg_gs 15, pg_cgs 15 z = true := by decide +kernel
theorem pg_cgs_16 : ∀ z ∈ pg_gs 16, pg_cgs 16 z = true := by decide +kernel
theorem pg_cgs_17 : ∀ z ∈ pg_gs 17, pg_cgs 17 z = true := by decide +kernel
theorem pg_cgs_18 : ∀ z ∈ pg_gs 18, pg_cgs 18 z = true := by decide +kernel
theorem pg_cgs_19 : ∀ z ∈ pg_gs 19, pg_cgs 19 z = true := by decide +kernel
theorem pg_cgs_20 : ∀ z ∈ pg_gs 20, pg_cgs 20 z = true := by decide +kernel
theorem pg_cgs_ok : ∀ oc ∈ List.range 21, ∀ z ∈ pg_gs oc, pg_cgs oc z = true := by
  have h : ∀ oc ∈ [0, 1, 2, 3, 4, 5, 6, 7, 8, 9, 10, 11, 12, 13, 14, 15, 16, 17, 18, 19, 20], ∀ z ∈ pg_gs oc, pg_cgs oc z = true := by
    simp only [List.forall_mem_cons]
    exact ⟨pg_cgs_0, pg_cgs_1, pg_cgs_2, pg_cgs_3, pg_cgs_4, pg_cgs_5, pg_cgs_6, pg_cgs_7, pg_cgs_8, pg_cgs_9, pg_cgs_10, pg_cgs_11, pg_cgs_12, pg_cgs_13, pg_cgs_14, pg_cgs_15, pg_cgs_16, pg_cgs_17, pg_cgs_18, pg_cgs_19, pg_cgs_20, fun _ h => absurd h List.not_mem_nil⟩
  exact h
def pg_cgh (oc : Nat) (z : Nat × Nat × Nat) : Bool := match pg_sf[z.2.1 - 1]? with
    | some f => decide (f.2.2.2 = z.2.1) && pg_okn z.2.2 (.fieldLinkNest (pg_cn oc) z.1 f.1 f.2.1 f.2.2.1 "LinkHouse")
    | none => false
theorem pg_cgh_0 : ∀ z ∈ pg_gh 0, pg_cgh 0 z = true := by decide +kernel
theorem pg_cgh_1 : ∀ z ∈ pg_gh 1, pg_cgh 1 z = true := by decide +kernel
theorem pg_cgh_2 : ∀ z ∈ pg_gh 2, pg_cgh 2 z = true := by decide +kernel
theorem pg_cgh_3 : ∀ z ∈ pg_gh 3, pg_cgh 3 z = true := by decide +kernel
theorem pg_cgh_4 : ∀ z ∈ pg_gh 4, pg_cgh 4 z = true := by decide +kernel
theorem pg_cgh_5 : ∀ z ∈ pg_gh 5, pg_cgh 5 z = true := by decide +kernel
theorem pg_cgh_6 : ∀ z ∈ pg_gh 6, pg_cgh 6 z = true := by decide +kernel
theorem pg_cgh_7 : ∀ z ∈ pg_gh 7, pg_cgh 7 z = true := by decide +kernel
theorem pg_cgh_8 : ∀ z ∈ pg_gh 8, pg_cgh 8 z = true := by decide +kernel
theorem pg_cgh_9 : ∀ z ∈ pg_gh 9, pg_cgh 9 z = true := by decide +kernel
theorem pg_cgh_10 : ∀ z ∈ pg_gh 10, pg_cgh 10 z = true := by decide +kernel
theorem pg_cgh_11 : ∀ z ∈ pg_gh 11, pg_cgh 11 z = true := by decide +kernel
theorem pg_cgh_12 : ∀ z ∈ pg_gh 12, pg_cgh 12 z = true := by decide +kernel
theorem pg_cgh_13 : ∀ z ∈ pg_gh 13, pg_cgh 13 z = true := by decide +kernel
theorem pg_cgh_14 : ∀ z ∈ pg_gh 14, pg_cgh 14 z = true := by decide +kernel
theorem pg_cgh_15 : ∀ z ∈ pg_gh 15, pg_cgh 15 z = true := by decide +kernel
theorem pg_cgh_16 : ∀ z ∈ pg_gh 16, pg_cgh 16 z = true := by decide +kernel
theorem pg_cgh_17 : ∀ z ∈ pg_gh 17, pg_cgh 17 z = true := by decide +kernel
theorem pg_cgh_18 : ∀ z ∈ pg_gh 18, pg_cgh 18 z = true := by decide +kernel
theorem pg_cgh_19 : ∀ z ∈ pg_gh 19, pg_cgh 19 z = true := by decide +kernel
theorem pg_cgh_20 : ∀ z ∈ pg_gh 20, pg_cgh 20 z = true := by decide +kernel
theorem pg_cgh_ok : ∀ oc ∈ List.range 21, ∀ z ∈ pg_gh oc, pg_cgh oc z = true := by
  have h : ∀ oc ∈ [0, 1, 2, 3, 4, 5, 6, 7, 8, 9, 10, 11, 12, 13, 14, 15, 16, 17, 18, 19, 20], ∀ z ∈ pg_gh oc, pg_cgh oc z = true := by
    simp only [List.forall_mem_cons]
    exact ⟨pg_cgh_0, pg_cgh_1, pg_cgh_2, pg_cgh_3, pg_cgh_4, pg_cgh_5, pg_cgh_6, pg_cgh_7, pg_cgh_8, pg_cgh_9, pg_cgh_10, pg_cgh_11, pg_cgh_12, pg_cgh_13, pg_cgh_14, pg_cgh_15, pg_cgh_16, pg_cgh_17, pg_cgh_18, pg_cgh_19, pg_cgh_20, fun _ h => absurd h List.not_mem_nil⟩
  exact h
