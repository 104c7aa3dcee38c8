/-! ===== methods 80 .. as entries ===== -/
-- OfDifferentMinds$Rule.write(I)V
def jm_b80_29 : List jx_E := (29, 71, (0, 0, 0, 0), 0, []) :: []
def jm_b80_0 : List jx_E := (0, 2, (0, 0, 0, 0), 0, []) :: (1, 32, (7, 5, 0, 32), 0, []) :: (4, 9, (0, 0, 0, 0), 40, []) :: (6, 64, (29, 0, 0, 0), 0, []) :: (9, 2, (0, 0, 0, 0), 0, []) :: (10, 33, (7, 1, 0, 15), 0, []) :: (13, 2, (0, 0, 0, 0), 0, []) :: (14, 32, (7, 5, 0, 32), 0, []) :: (17, 0, (1, 0, 0, 0), 0, []) :: (18, 41, (0, 0, 0, 0), 0, []) :: (19, 2, (0, 0, 0, 0), 0, []) :: (20, 28, (0, 0, 0, 0), 0, []) :: (21, 32, (7, 5, 0, 32), 0, []) :: (24, 8, (0, 0, 0, 0), 1, []) :: (25, 14, (0, 0, 0, 0), 0, []) :: (26, 34, (7, 5, 0, 32), 0, []) :: jm_b80_29
def jm_l80 : jx_B := [(0, jm_b80_0), (29, jm_b80_29)]
def jm_i80 : jx_M := (⟨"OfDifferentMinds$Rule", "write", "(I)V"⟩, prog_9_method_6_code, 2, none, 0, 2, 7, jm_l80)
theorem jm_ok80 : jx_okM 80 jm_i80 := ⟨by decide +kernel, rfl, by decide +kernel, ⟨by decide +kernel, by decide +kernel⟩, by decide +kernel, jx_mem (i := 559) (by decide +kernel) rfl, jx_mem (i := 109) (by decide +kernel) rfl, fun _ => ⟨jx_mem (i := 558) (by decide +kernel) rfl, jx_mem (i := 8) (by decide +kernel) rfl, by decide⟩, fun h => absurd h (by decide), fun h => absurd h (by decide), by decide, by decide, by decide, by decide +kernel, by decide +kernel⟩
-- OfDifferentMinds$Rule.takeJoined(LOfDifferentMinds$Text;II)Z
def jm_b81_94 : List jx_E := (94, 1, (4, 0, 0, 0), 0, []) :: (96, 70, (0, 0, 0, 0), 0, []) :: []
def jm_b81_38 : List jx_E := (38, 1, (6, 0, 0, 0), 0, []) :: (40, 1, (5, 0, 0, 0), 0, []) :: (42, 64, (94, 0, 0, 0), 0, []) :: (45, 1, (4, 0, 0, 0), 0, []) :: (47, 55, (94, 0, 0, 0), 0, []) :: (50, 2, (1, 0, 0, 0), 0, []) :: (51, 49, (120, 1, 9, 64), 0, []) :: (54, 50, (82, 1, 0, 67), 0, []) :: (57, 0, (2, 0, 0, 0), 0, []) :: (58, 62, (94, 0, 0, 0), 0, []) :: (61, 2, (1, 0, 0, 0), 0, []) :: (62, 49, (123, 1, 9, 71), 0, []) :: (65, 5, (7, 0, 0, 0), 0, []) :: (67, 2, (0, 0, 0, 0), 0, []) :: (68, 2, (1, 0, 0, 0), 0, []) :: (69, 0, (2, 0, 0, 0), 0, []) :: (70, 8, (0, 0, 0, 0), 1, []) :: (71, 14, (0, 0, 0, 0), 0, []) :: (72, 0, (3, 0, 0, 0), 0, []) :: (73, 49, (81, 4, 7, 44), 0, []) :: (76, 5, (4, 0, 0, 0), 0, []) :: (78, 2, (0, 0, 0, 0), 0, []) :: (79, 10, (0, 0, 0, 0), 3000, []) :: (82, 1, (7, 0, 0, 0), 0, []) :: (84, 14, (0, 0, 0, 0), 0, []) :: (85, 49, (80, 2, 7, 74), 0, []) :: (88, 13, (6, 0, 0, 0), 1, []) :: (91, 54, (38, 0, 0, 0), 0, []) :: []
def jm_b81_33 : List jx_E := (33, 5, (5, 0, 0, 0), 0, []) :: (35, 8, (0, 0, 0, 0), 0, []) :: (36, 5, (6, 0, 0, 0), 0, []) :: jm_b81_38
def jm_b81_31 : List jx_E := (31, 9, (0, 0, 0, 0), 40, []) :: jm_b81_33
def jm_b81_12 : List jx_E := (12, 2, (0, 0, 0, 0), 0, []) :: (13, 2, (1, 0, 0, 0), 0, []) :: (14, 0, (2, 0, 0, 0), 0, []) :: (15, 8, (0, 0, 0, 0), 1, []) :: (16, 14, (0, 0, 0, 0), 0, []) :: (17, 0, (3, 0, 0, 0), 0, []) :: (18, 49, (81, 4, 7, 44), 0, []) :: (21, 5, (4, 0, 0, 0), 0, []) :: (23, 0, (2, 0, 0, 0), 0, []) :: (24, 56, (31, 0, 0, 0), 0, []) :: (27, 8, (0, 0, 0, 0), 1, []) :: (28, 54, (33, 0, 0, 0), 0, []) :: []
def jm_b81_0 : List jx_E := (0, 0, (2, 0, 0, 0), 0, []) :: (1, 8, (0, 0, 0, 0), 2, []) :: (2, 66, (12, 0, 0, 0), 0, []) :: (5, 2, (0, 0, 0, 0), 0, []) :: (6, 2, (1, 0, 0, 0), 0, []) :: (7, 0, (3, 0, 0, 0), 0, []) :: (8, 49, (83, 3, 7, 60), 0, []) :: (11, 70, (0, 0, 0, 0), 0, []) :: []
def jm_l81 : jx_B := [(0, jm_b81_0), (12, jm_b81_12), (31, jm_b81_31), (33, jm_b81_33), (38, jm_b81_38), (94, jm_b81_94)]
def jm_i81 : jx_M := (⟨"OfDifferentMinds$Rule", "takeJoined", "(LOfDifferentMinds$Text;II)Z"⟩, prog_9_method_7_code, 8, (some .boolean), 0, 4, 7, jm_l81)
theorem jm_ok81 : jx_okM 81 jm_i81 := ⟨by decide +kernel, rfl, by decide +kernel, ⟨by decide +kernel, by decide +kernel⟩, by decide +kernel, jx_mem (i := 536) (by decide +kernel) rfl, jx_mem (i := 109) (by decide +kernel) rfl, fun _ => ⟨jx_mem (i := 535) (by decide +kernel) rfl, jx_mem (i := 4) (by decide +kernel) rfl, by decide⟩, fun h => absurd h (by decide), fun h => absurd h (by decide), by decide, by decide, by decide, by decide +kernel, by decide +kernel⟩
-- OfDifferentMinds$Rule.rankOf(I)I
def jm_b82_106 : List jx_E := (106, 8, (0, 0, 0, 0), (-1), []) :: (107, 69, (0, 0, 0, 0), 0, []) :: []
def jm_b82_104 : List jx_E := (104, 8, (0, 0, 0, 0), 2, []) :: (105, 69, (0, 0, 0, 0), 0, []) :: []
def jm_b82_102 : List jx_E := (102, 8, (0, 0, 0, 0), 1, []) :: (103, 69, (0, 0, 0, 0), 0, []) :: []
def jm_b82_100 : List jx_E := (100, 8, (0, 0, 0, 0), 0, []) :: (101, 69, (0, 0, 0, 0), 0, []) :: []
def jm_b82_0 : List jx_E := (0, 0, (0, 0, 0, 0), 0, []) :: (1, 67, (106, 0, 0, 99), 42, [(42, 104), (43, 102), (44, 106), (45, 102), (46, 106), (47, 104), (48, 106), (49, 106), (50, 106), (51, 106), (52, 106), (53, 106), (54, 106), (55, 106), (56, 106), (57, 106), (58, 106), (59, 106), (60, 100), (61, 100), (62, 100)]) :: []
def jm_l82 : jx_B := [(0, jm_b82_0), (100, jm_b82_100), (102, jm_b82_102), (104, jm_b82_104), (106, jm_b82_106)]
def jm_i82 : jx_M := (⟨"OfDifferentMinds$Rule", "rankOf", "(I)I"⟩, prog_9_method_8_code, 1, (some .int), 2, 1, 7, jm_l82)
theorem jm_ok82 : jx_okM 82 jm_i82 := ⟨by decide +kernel, rfl, by decide +kernel, ⟨by decide +kernel, by decide +kernel⟩, by decide +kernel, jx_mem (i := 565) (by decide +kernel) rfl, jx_mem (i := 109) (by decide +kernel) rfl, fun h => absurd h (by decide), fun h => absurd h (by decide), fun _ => jx_mem (i := 564) (by decide +kernel) rfl, by decide, by decide, by decide, by decide +kernel, by decide +kernel⟩
-- OfDifferentMinds$Rule.takeSigned(LOfDifferentMinds$Text;I)Z
def jm_b83_73 : List jx_E := (73, 1, (4, 0, 0, 0), 0, []) :: (75, 70, (0, 0, 0, 0), 0, []) :: []
def jm_b83_60 : List jx_E := (60, 5, (4, 0, 0, 0), 0, []) :: (62, 0, (3, 0, 0, 0), 0, []) :: (63, 55, (73, 0, 0, 0), 0, []) :: (66, 2, (0, 0, 0, 0), 0, []) :: (67, 10, (0, 0, 0, 0), 2000, []) :: (70, 49, (80, 2, 7, 74), 0, []) :: jm_b83_73
def jm_b83_55 : List jx_E := (55, 2, (0, 0, 0, 0), 0, []) :: (56, 2, (1, 0, 0, 0), 0, []) :: (57, 49, (85, 2, 7, 84), 0, []) :: jm_b83_60
def jm_b83_37 : List jx_E := (37, 2, (1, 0, 0, 0), 0, []) :: (38, 49, (120, 1, 9, 64), 0, []) :: (41, 9, (0, 0, 0, 0), 40, []) :: (43, 62, (55, 0, 0, 0), 0, []) :: (46, 2, (0, 0, 0, 0), 0, []) :: (47, 2, (1, 0, 0, 0), 0, []) :: (48, 0, (2, 0, 0, 0), 0, []) :: (49, 49, (84, 3, 7, 81), 0, []) :: (52, 54, (60, 0, 0, 0), 0, []) :: []
def jm_b83_30 : List jx_E := (30, 4, (3, 0, 0, 0), 0, []) :: (31, 13, (4, 0, 0, 0), 1, []) :: (34, 54, (5, 0, 0, 0), 0, []) :: []
def jm_b83_29 : List jx_E := (29, 8, (0, 0, 0, 0), 0, []) :: jm_b83_30
def jm_b83_5 : List jx_E := (5, 1, (4, 0, 0, 0), 0, []) :: (7, 9, (0, 0, 0, 0), 40, []) :: (9, 64, (37, 0, 0, 0), 0, []) :: (12, 2, (1, 0, 0, 0), 0, []) :: (13, 9, (0, 0, 0, 0), 45, []) :: (15, 49, (124, 2, 9, 77), 0, []) :: (18, 55, (37, 0, 0, 0), 0, []) :: (21, 0, (3, 0, 0, 0), 0, []) :: (22, 56, (29, 0, 0, 0), 0, []) :: (25, 8, (0, 0, 0, 0), 1, []) :: (26, 54, (30, 0, 0, 0), 0, []) :: []
def jm_b83_0 : List jx_E := (0, 8, (0, 0, 0, 0), 0, []) :: (1, 4, (3, 0, 0, 0), 0, []) :: (2, 8, (0, 0, 0, 0), 0, []) :: (3, 5, (4, 0, 0, 0), 0, []) :: jm_b83_5
def jm_l83 : jx_B := [(0, jm_b83_0), (5, jm_b83_5), (29, jm_b83_29), (30, jm_b83_30), (37, jm_b83_37), (55, jm_b83_55), (60, jm_b83_60), (73, jm_b83_73)]
def jm_i83 : jx_M := (⟨"OfDifferentMinds$Rule", "takeSigned", "(LOfDifferentMinds$Text;I)Z"⟩, prog_9_method_9_code, 5, (some .boolean), 0, 3, 7, jm_l83)
theorem jm_ok83 : jx_okM 83 jm_i83 := ⟨by decide +kernel, rfl, by decide +kernel, ⟨by decide +kernel, by decide +kernel⟩, by decide +kernel, jx_mem (i := 540) (by decide +kernel) rfl, jx_mem (i := 109) (by decide +kernel) rfl, fun _ => ⟨jx_mem (i := 539) (by decide +kernel) rfl, jx_mem (i := 5) (by decide +kernel) rfl, by decide⟩, fun h => absurd h (by decide), fun h => absurd h (by decide), by decide, by decide, by decide, by decide +kernel, by decide +kernel⟩
-- OfDifferentMinds$Rule.takeInner(LOfDifferentMinds$Text;I)Z
def jm_b84_38 : List jx_E := (38, 70, (0, 0, 0, 0), 0, []) :: []
def jm_b84_37 : List jx_E := (37, 8, (0, 0, 0, 0), 0, []) :: jm_b84_38
def jm_b84_7 : List jx_E := (7, 2, (1, 0, 0, 0), 0, []) :: (8, 49, (123, 1, 9, 71), 0, []) :: (11, 31, (0, 0, 0, 0), 0, []) :: (12, 2, (0, 0, 0, 0), 0, []) :: (13, 2, (1, 0, 0, 0), 0, []) :: (14, 8, (0, 0, 0, 0), 0, []) :: (15, 0, (2, 0, 0, 0), 0, []) :: (16, 8, (0, 0, 0, 0), 1, []) :: (17, 14, (0, 0, 0, 0), 0, []) :: (18, 49, (81, 4, 7, 44), 0, []) :: (21, 55, (37, 0, 0, 0), 0, []) :: (24, 2, (1, 0, 0, 0), 0, []) :: (25, 9, (0, 0, 0, 0), 41, []) :: (27, 49, (124, 2, 9, 77), 0, []) :: (30, 55, (37, 0, 0, 0), 0, []) :: (33, 8, (0, 0, 0, 0), 1, []) :: (34, 54, (38, 0, 0, 0), 0, []) :: []
def jm_b84_0 : List jx_E := (0, 0, (2, 0, 0, 0), 0, []) :: (1, 8, (0, 0, 0, 0), 4, []) :: (2, 63, (7, 0, 0, 0), 0, []) :: (5, 8, (0, 0, 0, 0), 0, []) :: (6, 70, (0, 0, 0, 0), 0, []) :: []
def jm_l84 : jx_B := [(0, jm_b84_0), (7, jm_b84_7), (37, jm_b84_37), (38, jm_b84_38)]
def jm_i84 : jx_M := (⟨"OfDifferentMinds$Rule", "takeInner", "(LOfDifferentMinds$Text;I)Z"⟩, prog_9_method_10_code, 3, (some .boolean), 0, 3, 7, jm_l84)
theorem jm_ok84 : jx_okM 84 jm_i84 := ⟨by decide +kernel, rfl, by decide +kernel, ⟨by decide +kernel, by decide +kernel⟩, by decide +kernel, jx_mem (i := 546) (by decide +kernel) rfl, jx_mem (i := 109) (by decide +kernel) rfl, fun _ => ⟨jx_mem (i := 545) (by decide +kernel) rfl, jx_mem (i := 6) (by decide +kernel) rfl, by decide⟩, fun h => absurd h (by decide), fun h => absurd h (by decide), by decide, by decide, by decide, by decide +kernel, by decide +kernel⟩
-- OfDifferentMinds$Rule.takeThing(LOfDifferentMinds$Text;)Z
def jm_b85_33 : List jx_E := (33, 2, (1, 0, 0, 0), 0, []) :: (34, 49, (123, 1, 9, 71), 0, []) :: (37, 31, (0, 0, 0, 0), 0, []) :: (38, 2, (0, 0, 0, 0), 0, []) :: (39, 10, (0, 0, 0, 0), 1000, []) :: (42, 0, (3, 0, 0, 0), 0, []) :: (43, 14, (0, 0, 0, 0), 0, []) :: (44, 49, (80, 2, 7, 74), 0, []) :: (47, 8, (0, 0, 0, 0), 1, []) :: (48, 70, (0, 0, 0, 0), 0, []) :: []
def jm_b85_18 : List jx_E := (18, 2, (1, 0, 0, 0), 0, []) :: (19, 49, (120, 1, 9, 64), 0, []) :: (22, 50, (86, 1, 0, 91), 0, []) :: (25, 4, (3, 0, 0, 0), 0, []) :: (26, 0, (3, 0, 0, 0), 0, []) :: (27, 8, (0, 0, 0, 0), (-1), []) :: (28, 62, (33, 0, 0, 0), 0, []) :: (31, 8, (0, 0, 0, 0), 0, []) :: (32, 70, (0, 0, 0, 0), 0, []) :: []
def jm_b85_0 : List jx_E := (0, 2, (1, 0, 0, 0), 0, []) :: (1, 8, (0, 0, 0, 0), 3, []) :: (2, 49, (126, 2, 9, 88), 0, []) :: (5, 4, (2, 0, 0, 0), 0, []) :: (6, 0, (2, 0, 0, 0), 0, []) :: (7, 8, (0, 0, 0, 0), (-1), []) :: (8, 61, (18, 0, 0, 0), 0, []) :: (11, 2, (0, 0, 0, 0), 0, []) :: (12, 0, (2, 0, 0, 0), 0, []) :: (13, 49, (80, 2, 7, 74), 0, []) :: (16, 8, (0, 0, 0, 0), 1, []) :: (17, 70, (0, 0, 0, 0), 0, []) :: []
def jm_l85 : jx_B := [(0, jm_b85_0), (18, jm_b85_18), (33, jm_b85_33)]
def jm_i85 : jx_M := (⟨"OfDifferentMinds$Rule", "takeThing", "(LOfDifferentMinds$Text;)Z"⟩, prog_9_method_11_code, 4, (some .boolean), 0, 2, 7, jm_l85)
theorem jm_ok85 : jx_okM 85 jm_i85 := ⟨by decide +kernel, rfl, by decide +kernel, ⟨by decide +kernel, by decide +kernel⟩, by decide +kernel, jx_mem (i := 554) (by decide +kernel) rfl, jx_mem (i := 109) (by decide +kernel) rfl, fun _ => ⟨jx_mem (i := 553) (by decide +kernel) rfl, jx_mem (i := 7) (by decide +kernel) rfl, by decide⟩, fun h => absurd h (by decide), fun h => absurd h (by decide), by decide, by decide, by decide, by decide +kernel, by decide +kernel⟩
-- OfDifferentMinds$Rule.thingOf(I)I
def jm_b86_107 : List jx_E := (107, 8, (0, 0, 0, 0), (-1), []) :: (108, 69, (0, 0, 0, 0), 0, []) :: []
def jm_b86_104 : List jx_E := (104, 9, (0, 0, 0, 0), 6, []) :: (106, 69, (0, 0, 0, 0), 0, []) :: []
def jm_b86_102 : List jx_E := (102, 8, (0, 0, 0, 0), 5, []) :: (103, 69, (0, 0, 0, 0), 0, []) :: []
def jm_b86_100 : List jx_E := (100, 8, (0, 0, 0, 0), 4, []) :: (101, 69, (0, 0, 0, 0), 0, []) :: []
def jm_b86_98 : List jx_E := (98, 8, (0, 0, 0, 0), 3, []) :: (99, 69, (0, 0, 0, 0), 0, []) :: []
def jm_b86_96 : List jx_E := (96, 8, (0, 0, 0, 0), 2, []) :: (97, 69, (0, 0, 0, 0), 0, []) :: []
def jm_b86_94 : List jx_E := (94, 8, (0, 0, 0, 0), 1, []) :: (95, 69, (0, 0, 0, 0), 0, []) :: []
def jm_b86_92 : List jx_E := (92, 8, (0, 0, 0, 0), 0, []) :: (93, 69, (0, 0, 0, 0), 0, []) :: []
def jm_b86_0 : List jx_E := (0, 0, (0, 0, 0, 0), 0, []) :: (1, 67, (107, 0, 0, 91), 97, [(97, 92), (98, 94), (99, 107), (100, 107), (101, 107), (102, 107), (103, 107), (104, 107), (105, 107), (106, 107), (107, 96), (108, 107), (109, 102), (110, 104), (111, 107), (112, 98), (113, 107), (114, 107), (115, 100)]) :: []
def jm_l86 : jx_B := [(0, jm_b86_0), (92, jm_b86_92), (94, jm_b86_94), (96, jm_b86_96), (98, jm_b86_98), (100, jm_b86_100), (102, jm_b86_102), (104, jm_b86_104), (107, jm_b86_107)]
def jm_i86 : jx_M := (⟨"OfDifferentMinds$Rule", "thingOf", "(I)I"⟩, prog_9_method_12_code, 1, (some .int), 2, 1, 7, jm_l86)
theorem jm_ok86 : jx_okM 86 jm_i86 := ⟨by decide +kernel, rfl, by decide +kernel, ⟨by decide +kernel, by decide +kernel⟩, by decide +kernel, jx_mem (i := 562) (by decide +kernel) rfl, jx_mem (i := 109) (by decide +kernel) rfl, fun h => absurd h (by decide), fun h => absurd h (by decide), fun _ => jx_mem (i := 561) (by decide +kernel) rfl, by decide, by decide, by decide, by decide +kernel, by decide +kernel⟩
-- OfDifferentMinds$Standing.<init>()V
def jm_b87_0 : List jx_E := (0, 2, (0, 0, 0, 0), 0, []) :: (1, 52, (0, 0, 0, 5), 0, []) :: (4, 2, (0, 0, 0, 0), 0, []) :: (5, 9, (0, 0, 0, 0), 28, []) :: (7, 46, (0, 0, 0, 0), 0, []) :: (9, 37, (8, 0, 0, 11), 0, []) :: (12, 2, (0, 0, 0, 0), 0, []) :: (13, 33, (8, 0, 0, 11), 0, []) :: (16, 9, (0, 0, 0, 0), 25, []) :: (18, 8, (0, 0, 0, 0), (-1), []) :: (19, 41, (0, 0, 0, 0), 0, []) :: (20, 2, (0, 0, 0, 0), 0, []) :: (21, 33, (8, 0, 0, 11), 0, []) :: (24, 9, (0, 0, 0, 0), 26, []) :: (26, 8, (0, 0, 0, 0), (-1), []) :: (27, 41, (0, 0, 0, 0), 0, []) :: (28, 71, (0, 0, 0, 0), 0, []) :: []
def jm_l87 : jx_B := [(0, jm_b87_0)]
def jm_i87 : jx_M := (⟨"OfDifferentMinds$Standing", "<init>", "()V"⟩, prog_10_method_1_code, 1, none, 1, 1, 8, jm_l87)
theorem jm_ok87 : jx_okM 87 jm_i87 := ⟨by decide +kernel, rfl, by decide +kernel, ⟨by decide +kernel, by decide +kernel⟩, by decide +kernel, jx_mem (i := 207) (by decide +kernel) rfl, jx_mem (i := 110) (by decide +kernel) rfl, fun h => absurd h (by decide), fun _ => ⟨rfl, jx_mem (i := 206) (by decide +kernel) rfl, rfl⟩, fun h => absurd h (by decide), by decide, by decide, by decide, by decide +kernel, by decide +kernel⟩
-- OfDifferentMinds$Standing.clear()V
def jm_b88_0 : List jx_E := (0, 2, (0, 0, 0, 0), 0, []) :: (1, 33, (8, 0, 0, 11), 0, []) :: (4, 9, (0, 0, 0, 0), 24, []) :: (6, 8, (0, 0, 0, 0), 0, []) :: (7, 41, (0, 0, 0, 0), 0, []) :: (8, 2, (0, 0, 0, 0), 0, []) :: (9, 8, (0, 0, 0, 0), (-1), []) :: (10, 8, (0, 0, 0, 0), (-1), []) :: (11, 49, (111, 3, 8, 15), 0, []) :: (14, 71, (0, 0, 0, 0), 0, []) :: []
def jm_l88 : jx_B := [(0, jm_b88_0)]
def jm_i88 : jx_M := (⟨"OfDifferentMinds$Standing", "clear", "()V"⟩, prog_10_method_2_code, 1, none, 0, 1, 8, jm_l88)
theorem jm_ok88 : jx_okM 88 jm_i88 := ⟨by decide +kernel, rfl, by decide +kernel, ⟨by decide +kernel, by decide +kernel⟩, by decide +kernel, jx_mem (i := 464) (by decide +kernel) rfl, jx_mem (i := 110) (by decide +kernel) rfl, fun _ => ⟨jx_mem (i := 462) (by decide +kernel) rfl, jx_mem (i := 463) (by decide +kernel) rfl, by decide⟩, fun h => absurd h (by decide), fun h => absurd h (by decide), by decide, by decide, by decide, by decide +kernel, by decide +kernel⟩
-- OfDifferentMinds$Standing.copy(LOfDifferentMinds$Standing;)V
def jm_b89_0 : List jx_E := (0, 2, (1, 0, 0, 0), 0, []) :: (1, 33, (8, 0, 0, 11), 0, []) :: (4, 8, (0, 0, 0, 0), 0, []) :: (5, 2, (0, 0, 0, 0), 0, []) :: (6, 33, (8, 0, 0, 11), 0, []) :: (9, 8, (0, 0, 0, 0), 0, []) :: (10, 9, (0, 0, 0, 0), 28, []) :: (12, 53, (0, 0, 0, 19), 0, []) :: (15, 71, (0, 0, 0, 0), 0, []) :: []
def jm_l89 : jx_B := [(0, jm_b89_0)]
def jm_i89 : jx_M := (⟨"OfDifferentMinds$Standing", "copy", "(LOfDifferentMinds$Standing;)V"⟩, prog_10_method_3_code, 2, none, 0, 2, 8, jm_l89)
theorem jm_ok89 : jx_okM 89 jm_i89 := ⟨by decide +kernel, rfl, by decide +kernel, ⟨by decide +kernel, by decide +kernel⟩, by decide +kernel, jx_mem (i := 654) (by decide +kernel) rfl, jx_mem (i := 110) (by decide +kernel) rfl, fun _ => ⟨jx_mem (i := 652) (by decide +kernel) rfl, jx_mem (i := 653) (by decide +kernel) rfl, by decide⟩, fun h => absurd h (by decide), fun h => absurd h (by decide), by decide, by decide, by decide, by decide +kernel, by decide +kernel⟩
-- OfDifferentMinds$Standing.get(II)I
def jm_b90_22 : List jx_E := (22, 69, (0, 0, 0, 0), 0, []) :: []
def jm_b90_21 : List jx_E := (21, 8, (0, 0, 0, 0), (-1), []) :: jm_b90_22
def jm_b90_0 : List jx_E := (0, 0, (2, 0, 0, 0), 0, []) :: (1, 57, (21, 0, 0, 0), 0, []) :: (4, 0, (2, 0, 0, 0), 0, []) :: (5, 9, (0, 0, 0, 0), 6, []) :: (7, 64, (21, 0, 0, 0), 0, []) :: (10, 2, (0, 0, 0, 0), 0, []) :: (11, 33, (8, 0, 0, 11), 0, []) :: (14, 0, (1, 0, 0, 0), 0, []) :: (15, 0, (2, 0, 0, 0), 0, []) :: (16, 14, (0, 0, 0, 0), 0, []) :: (17, 38, (0, 0, 0, 0), 0, []) :: (18, 54, (22, 0, 0, 0), 0, []) :: []
def jm_l90 : jx_B := [(0, jm_b90_0), (21, jm_b90_21), (22, jm_b90_22)]
def jm_i90 : jx_M := (⟨"OfDifferentMinds$Standing", "get", "(II)I"⟩, prog_10_method_4_code, 3, (some .int), 0, 3, 8, jm_l90)
theorem jm_ok90 : jx_okM 90 jm_i90 := ⟨by decide +kernel, rfl, by decide +kernel, ⟨by decide +kernel, by decide +kernel⟩, by decide +kernel, jx_mem (i := 603) (by decide +kernel) rfl, jx_mem (i := 110) (by decide +kernel) rfl, fun _ => ⟨jx_mem (i := 602) (by decide +kernel) rfl, jx_mem (i := 10) (by decide +kernel) rfl, by decide⟩, fun h => absurd h (by decide), fun h => absurd h (by decide), by decide, by decide, by decide, by decide +kernel, by decide +kernel⟩
-- OfDifferentMinds$Standing.set(III)V
def jm_b91_19 : List jx_E := (19, 71, (0, 0, 0, 0), 0, []) :: []
def jm_b91_0 : List jx_E := (0, 0, (2, 0, 0, 0), 0, []) :: (1, 57, (19, 0, 0, 0), 0, []) :: (4, 0, (2, 0, 0, 0), 0, []) :: (5, 9, (0, 0, 0, 0), 6, []) :: (7, 64, (19, 0, 0, 0), 0, []) :: (10, 2, (0, 0, 0, 0), 0, []) :: (11, 33, (8, 0, 0, 11), 0, []) :: (14, 0, (1, 0, 0, 0), 0, []) :: (15, 0, (2, 0, 0, 0), 0, []) :: (16, 14, (0, 0, 0, 0), 0, []) :: (17, 0, (3, 0, 0, 0), 0, []) :: (18, 41, (0, 0, 0, 0), 0, []) :: jm_b91_19
def jm_l91 : jx_B := [(0, jm_b91_0), (19, jm_b91_19)]
def jm_i91 : jx_M := (⟨"OfDifferentMinds$Standing", "set", "(III)V"⟩, prog_10_method_5_code, 4, none, 0, 4, 8, jm_l91)
theorem jm_ok91 : jx_okM 91 jm_i91 := ⟨by decide +kernel, rfl, by decide +kernel, ⟨by decide +kernel, by decide +kernel⟩, by decide +kernel, jx_mem (i := 518) (by decide +kernel) rfl, jx_mem (i := 110) (by decide +kernel) rfl, fun _ => ⟨jx_mem (i := 517) (by decide +kernel) rfl, jx_mem (i := 3) (by decide +kernel) rfl, by decide⟩, fun h => absurd h (by decide), fun h => absurd h (by decide), by decide, by decide, by decide, by decide +kernel, by decide +kernel⟩
-- OfDifferentMinds$Standing.(that of the table)(II)V
def jm_b92_0 : List jx_E := (0, 2, (0, 0, 0, 0), 0, []) :: (1, 8, (0, 0, 0, 0), 0, []) :: (2, 0, (1, 0, 0, 0), 0, []) :: (3, 8, (0, 0, 0, 0), 0, []) :: (4, 49, (91, 4, 8, 25), 0, []) :: (7, 2, (0, 0, 0, 0), 0, []) :: (8, 9, (0, 0, 0, 0), 6, []) :: (10, 0, (1, 0, 0, 0), 0, []) :: (11, 8, (0, 0, 0, 0), 0, []) :: (12, 49, (91, 4, 8, 25), 0, []) :: (15, 2, (0, 0, 0, 0), 0, []) :: (16, 9, (0, 0, 0, 0), 12, []) :: (18, 0, (1, 0, 0, 0), 0, []) :: (19, 8, (0, 0, 0, 0), (-1), []) :: (20, 49, (91, 4, 8, 25), 0, []) :: (23, 2, (0, 0, 0, 0), 0, []) :: (24, 9, (0, 0, 0, 0), 18, []) :: (26, 0, (1, 0, 0, 0), 0, []) :: (27, 0, (2, 0, 0, 0), 0, []) :: (28, 49, (91, 4, 8, 25), 0, []) :: (31, 71, (0, 0, 0, 0), 0, []) :: []
def jm_l92 : jx_B := [(0, jm_b92_0)]
def jm_i92 : jx_M := (⟨"OfDifferentMinds$Standing", jx_cn 514, "(II)V"⟩, prog_10_method_6_code, 3, none, 0, 3, 8, jm_l92)
theorem jm_ok92 : jx_okM 92 jm_i92 := ⟨by decide +kernel, rfl, by decide +kernel, ⟨by decide +kernel, by decide +kernel⟩, by decide +kernel, jx_mem (i := 514) (by decide +kernel) (by decide +kernel), jx_mem (i := 110) (by decide +kernel) rfl, fun _ => ⟨jx_mem (i := 512) (by decide +kernel) (by decide +kernel), jx_mem (i := 513) (by decide +kernel) (by decide +kernel), by decide⟩, fun h => absurd h (by decide), fun h => absurd h (by decide), by decide, by decide, by decide, by decide +kernel, by decide +kernel⟩
-- OfDifferentMinds$Standing.spentOf(I)I
def jm_b93_0 : List jx_E := (0, 2, (0, 0, 0, 0), 0, []) :: (1, 8, (0, 0, 0, 0), 0, []) :: (2, 0, (1, 0, 0, 0), 0, []) :: (3, 49, (90, 3, 8, 29), 0, []) :: (6, 69, (0, 0, 0, 0), 0, []) :: []
def jm_l93 : jx_B := [(0, jm_b93_0)]
def jm_i93 : jx_M := (⟨"OfDifferentMinds$Standing", "spentOf", "(I)I"⟩, prog_10_method_7_code, 2, (some .int), 0, 2, 8, jm_l93)
theorem jm_ok93 : jx_okM 93 jm_i93 := ⟨by decide +kernel, rfl, by decide +kernel, ⟨by decide +kernel, by decide +kernel⟩, by decide +kernel, jx_mem (i := 634) (by decide +kernel) rfl, jx_mem (i := 110) (by decide +kernel) rfl, fun _ => ⟨jx_mem (i := 632) (by decide +kernel) rfl, jx_mem (i := 633) (by decide +kernel) rfl, by decide⟩, fun h => absurd h (by decide), fun h => absurd h (by decide), by decide, by decide, by decide, by decide +kernel, by decide +kernel⟩
-- OfDifferentMinds$Standing.setSpent(II)V
def jm_b94_0 : List jx_E := (0, 2, (0, 0, 0, 0), 0, []) :: (1, 8, (0, 0, 0, 0), 0, []) :: (2, 0, (1, 0, 0, 0), 0, []) :: (3, 0, (2, 0, 0, 0), 0, []) :: (4, 49, (91, 4, 8, 25), 0, []) :: (7, 71, (0, 0, 0, 0), 0, []) :: []
def jm_l94 : jx_B := [(0, jm_b94_0)]
def jm_i94 : jx_M := (⟨"OfDifferentMinds$Standing", "setSpent", "(II)V"⟩, prog_10_method_8_code, 3, none, 0, 3, 8, jm_l94)
theorem jm_ok94 : jx_okM 94 jm_i94 := ⟨by decide +kernel, rfl, by decide +kernel, ⟨by decide +kernel, by decide +kernel⟩, by decide +kernel, jx_mem (i := 642) (by decide +kernel) rfl, jx_mem (i := 110) (by decide +kernel) rfl, fun _ => ⟨jx_mem (i := 640) (by decide +kernel) rfl, jx_mem (i := 641) (by decide +kernel) rfl, by decide⟩, fun h => absurd h (by decide), fun h => absurd h (by decide), by decide, by decide, by decide, by decide +kernel, by decide +kernel⟩
-- OfDifferentMinds$Standing.placeOf(I)I
def jm_b95_0 : List jx_E := (0, 2, (0, 0, 0, 0), 0, []) :: (1, 9, (0, 0, 0, 0), 6, []) :: (3, 0, (1, 0, 0, 0), 0, []) :: (4, 49, (90, 3, 8, 29), 0, []) :: (7, 69, (0, 0, 0, 0), 0, []) :: []
def jm_l95 : jx_B := [(0, jm_b95_0)]
def jm_i95 : jx_M := (⟨"OfDifferentMinds$Standing", "placeOf", "(I)I"⟩, prog_10_method_9_code, 2, (some .int), 0, 2, 8, jm_l95)
theorem jm_ok95 : jx_okM 95 jm_i95 := ⟨by decide +kernel, rfl, by decide +kernel, ⟨by decide +kernel, by decide +kernel⟩, by decide +kernel, jx_mem (i := 675) (by decide +kernel) rfl, jx_mem (i := 110) (by decide +kernel) rfl, fun _ => ⟨jx_mem (i := 673) (by decide +kernel) rfl, jx_mem (i := 674) (by decide +kernel) rfl, by decide⟩, fun h => absurd h (by decide), fun h => absurd h (by decide), by decide, by decide, by decide, by decide +kernel, by decide +kernel⟩
-- OfDifferentMinds$Standing.setPlace(II)V
def jm_b96_0 : List jx_E := (0, 2, (0, 0, 0, 0), 0, []) :: (1, 9, (0, 0, 0, 0), 6, []) :: (3, 0, (1, 0, 0, 0), 0, []) :: (4, 0, (2, 0, 0, 0), 0, []) :: (5, 49, (91, 4, 8, 25), 0, []) :: (8, 71, (0, 0, 0, 0), 0, []) :: []
def jm_l96 : jx_B := [(0, jm_b96_0)]
def jm_i96 : jx_M := (⟨"OfDifferentMinds$Standing", "setPlace", "(II)V"⟩, prog_10_method_10_code, 3, none, 0, 3, 8, jm_l96)
theorem jm_ok96 : jx_okM 96 jm_i96 := ⟨by decide +kernel, rfl, by decide +kernel, ⟨by decide +kernel, by decide +kernel⟩, by decide +kernel, jx_mem (i := 785) (by decide +kernel) rfl, jx_mem (i := 110) (by decide +kernel) rfl, fun _ => ⟨jx_mem (i := 783) (by decide +kernel) rfl, jx_mem (i := 784) (by decide +kernel) rfl, by decide⟩, fun h => absurd h (by decide), fun h => absurd h (by decide), by decide, by decide, by decide, by decide +kernel, by decide +kernel⟩
-- OfDifferentMinds$Standing.convincerOf(I)I
def jm_b97_0 : List jx_E := (0, 2, (0, 0, 0, 0), 0, []) :: (1, 9, (0, 0, 0, 0), 12, []) :: (3, 0, (1, 0, 0, 0), 0, []) :: (4, 49, (90, 3, 8, 29), 0, []) :: (7, 69, (0, 0, 0, 0), 0, []) :: []
def jm_l97 : jx_B := [(0, jm_b97_0)]
def jm_i97 : jx_M := (⟨"OfDifferentMinds$Standing", "convincerOf", "(I)I"⟩, prog_10_method_11_code, 2, (some .int), 0, 2, 8, jm_l97)
theorem jm_ok97 : jx_okM 97 jm_i97 := ⟨by decide +kernel, rfl, by decide +kernel, ⟨by decide +kernel, by decide +kernel⟩, by decide +kernel, jx_mem (i := 599) (by decide +kernel) rfl, jx_mem (i := 110) (by decide +kernel) rfl, fun _ => ⟨jx_mem (i := 597) (by decide +kernel) rfl, jx_mem (i := 598) (by decide +kernel) rfl, by decide⟩, fun h => absurd h (by decide), fun h => absurd h (by decide), by decide, by decide, by decide, by decide +kernel, by decide +kernel⟩
-- OfDifferentMinds$Standing.setConvincer(II)V
def jm_b98_0 : List jx_E := (0, 2, (0, 0, 0, 0), 0, []) :: (1, 9, (0, 0, 0, 0), 12, []) :: (3, 0, (1, 0, 0, 0), 0, []) :: (4, 0, (2, 0, 0, 0), 0, []) :: (5, 49, (91, 4, 8, 25), 0, []) :: (8, 71, (0, 0, 0, 0), 0, []) :: []
def jm_l98 : jx_B := [(0, jm_b98_0)]
def jm_i98 : jx_M := (⟨"OfDifferentMinds$Standing", "setConvincer", "(II)V"⟩, prog_10_method_12_code, 3, none, 0, 3, 8, jm_l98)
theorem jm_ok98 : jx_okM 98 jm_i98 := ⟨by decide +kernel, rfl, by decide +kernel, ⟨by decide +kernel, by decide +kernel⟩, by decide +kernel, jx_mem (i := 790) (by decide +kernel) rfl, jx_mem (i := 110) (by decide +kernel) rfl, fun _ => ⟨jx_mem (i := 788) (by decide +kernel) rfl, jx_mem (i := 789) (by decide +kernel) rfl, by decide⟩, fun h => absurd h (by decide), fun h => absurd h (by decide), by decide, by decide, by decide, by decide +kernel, by decide +kernel⟩
-- OfDifferentMinds$Standing.mapOf(I)I
def jm_b99_0 : List jx_E := (0, 2, (0, 0, 0, 0), 0, []) :: (1, 9, (0, 0, 0, 0), 18, []) :: (3, 0, (1, 0, 0, 0), 0, []) :: (4, 49, (90, 3, 8, 29), 0, []) :: (7, 69, (0, 0, 0, 0), 0, []) :: []
def jm_l99 : jx_B := [(0, jm_b99_0)]
def jm_i99 : jx_M := (⟨"OfDifferentMinds$Standing", "mapOf", "(I)I"⟩, prog_10_method_13_code, 2, (some .int), 0, 2, 8, jm_l99)
theorem jm_ok99 : jx_okM 99 jm_i99 := ⟨by decide +kernel, rfl, by decide +kernel, ⟨by decide +kernel, by decide +kernel⟩, by decide +kernel, jx_mem (i := 607) (by decide +kernel) rfl, jx_mem (i := 110) (by decide +kernel) rfl, fun _ => ⟨jx_mem (i := 605) (by decide +kernel) rfl, jx_mem (i := 606) (by decide +kernel) rfl, by decide⟩, fun h => absurd h (by decide), fun h => absurd h (by decide), by decide, by decide, by decide, by decide +kernel, by decide +kernel⟩
-- OfDifferentMinds$Standing.guidingMap(I)I
def jm_b100_17 : List jx_E := (17, 49, (99, 2, 8, 37), 0, []) :: (20, 69, (0, 0, 0, 0), 0, []) :: []
def jm_b100_16 : List jx_E := (16, 0, (2, 0, 0, 0), 0, []) :: jm_b100_17
def jm_b100_0 : List jx_E := (0, 2, (0, 0, 0, 0), 0, []) :: (1, 0, (1, 0, 0, 0), 0, []) :: (2, 49, (97, 2, 8, 33), 0, []) :: (5, 4, (2, 0, 0, 0), 0, []) :: (6, 2, (0, 0, 0, 0), 0, []) :: (7, 0, (2, 0, 0, 0), 0, []) :: (8, 8, (0, 0, 0, 0), (-1), []) :: (9, 62, (16, 0, 0, 0), 0, []) :: (12, 0, (1, 0, 0, 0), 0, []) :: (13, 54, (17, 0, 0, 0), 0, []) :: []
def jm_l100 : jx_B := [(0, jm_b100_0), (16, jm_b100_16), (17, jm_b100_17)]
def jm_i100 : jx_M := (⟨"OfDifferentMinds$Standing", "guidingMap", "(I)I"⟩, prog_10_method_14_code, 3, (some .int), 0, 2, 8, jm_l100)
theorem jm_ok100 : jx_okM 100 jm_i100 := ⟨by decide +kernel, rfl, by decide +kernel, ⟨by decide +kernel, by decide +kernel⟩, by decide +kernel, jx_mem (i := 595) (by decide +kernel) rfl, jx_mem (i := 110) (by decide +kernel) rfl, fun _ => ⟨jx_mem (i := 593) (by decide +kernel) rfl, jx_mem (i := 594) (by decide +kernel) rfl, by decide⟩, fun h => absurd h (by decide), fun h => absurd h (by decide), by decide, by decide, by decide, by decide +kernel, by decide +kernel⟩
-- OfDifferentMinds$Standing.digit(II)I
def jm_b101_25 : List jx_E := (25, 69, (0, 0, 0, 0), 0, []) :: []
def jm_b101_24 : List jx_E := (24, 8, (0, 0, 0, 0), 0, []) :: jm_b101_25
def jm_b101_0 : List jx_E := (0, 0, (2, 0, 0, 0), 0, []) :: (1, 57, (24, 0, 0, 0), 0, []) :: (4, 0, (2, 0, 0, 0), 0, []) :: (5, 9, (0, 0, 0, 0), 10, []) :: (7, 64, (24, 0, 0, 0), 0, []) :: (10, 2, (0, 0, 0, 0), 0, []) :: (11, 0, (1, 0, 0, 0), 0, []) :: (12, 49, (99, 2, 8, 37), 0, []) :: (15, 8, (0, 0, 0, 0), 2, []) :: (16, 0, (2, 0, 0, 0), 0, []) :: (17, 16, (0, 0, 0, 0), 0, []) :: (18, 24, (0, 0, 0, 0), 0, []) :: (19, 8, (0, 0, 0, 0), 3, []) :: (20, 20, (0, 0, 0, 0), 0, []) :: (21, 54, (25, 0, 0, 0), 0, []) :: []
def jm_l101 : jx_B := [(0, jm_b101_0), (24, jm_b101_24), (25, jm_b101_25)]
def jm_i101 : jx_M := (⟨"OfDifferentMinds$Standing", "digit", "(II)I"⟩, prog_10_method_15_code, 3, (some .int), 0, 3, 8, jm_l101)
theorem jm_ok101 : jx_okM 101 jm_i101 := ⟨by decide +kernel, rfl, by decide +kernel, ⟨by decide +kernel, by decide +kernel⟩, by decide +kernel, jx_mem (i := 866) (by decide +kernel) rfl, jx_mem (i := 110) (by decide +kernel) rfl, fun _ => ⟨jx_mem (i := 864) (by decide +kernel) rfl, jx_mem (i := 865) (by decide +kernel) rfl, by decide⟩, fun h => absurd h (by decide), fun h => absurd h (by decide), by decide, by decide, by decide, by decide +kernel, by decide +kernel⟩
-- OfDifferentMinds$Standing.changeMaps(II)V
def jm_b102_0 : List jx_E := (0, 2, (0, 0, 0, 0), 0, []) :: (1, 0, (1, 0, 0, 0), 0, []) :: (2, 49, (99, 2, 8, 37), 0, []) :: (5, 4, (3, 0, 0, 0), 0, []) :: (6, 2, (0, 0, 0, 0), 0, []) :: (7, 9, (0, 0, 0, 0), 18, []) :: (9, 0, (1, 0, 0, 0), 0, []) :: (10, 2, (0, 0, 0, 0), 0, []) :: (11, 0, (2, 0, 0, 0), 0, []) :: (12, 49, (99, 2, 8, 37), 0, []) :: (15, 49, (91, 4, 8, 25), 0, []) :: (18, 2, (0, 0, 0, 0), 0, []) :: (19, 9, (0, 0, 0, 0), 18, []) :: (21, 0, (2, 0, 0, 0), 0, []) :: (22, 0, (3, 0, 0, 0), 0, []) :: (23, 49, (91, 4, 8, 25), 0, []) :: (26, 71, (0, 0, 0, 0), 0, []) :: []
def jm_l102 : jx_B := [(0, jm_b102_0)]
def jm_i102 : jx_M := (⟨"OfDifferentMinds$Standing", "changeMaps", "(II)V"⟩, prog_10_method_16_code, 4, none, 0, 3, 8, jm_l102)
theorem jm_ok102 : jx_okM 102 jm_i102 := ⟨by decide +kernel, rfl, by decide +kernel, ⟨by decide +kernel, by decide +kernel⟩, by decide +kernel, jx_mem (i := 870) (by decide +kernel) rfl, jx_mem (i := 110) (by decide +kernel) rfl, fun _ => ⟨jx_mem (i := 868) (by decide +kernel) rfl, jx_mem (i := 869) (by decide +kernel) rfl, by decide⟩, fun h => absurd h (by decide), fun h => absurd h (by decide), by decide, by decide, by decide, by decide +kernel, by decide +kernel⟩
-- OfDifferentMinds$Standing.horse()I
def jm_b103_0 : List jx_E := (0, 2, (0, 0, 0, 0), 0, []) :: (1, 33, (8, 0, 0, 11), 0, []) :: (4, 9, (0, 0, 0, 0), 24, []) :: (6, 38, (0, 0, 0, 0), 0, []) :: (7, 69, (0, 0, 0, 0), 0, []) :: []
def jm_l103 : jx_B := [(0, jm_b103_0)]
def jm_i103 : jx_M := (⟨"OfDifferentMinds$Standing", "horse", "()I"⟩, prog_10_method_17_code, 1, (some .int), 0, 1, 8, jm_l103)
theorem jm_ok103 : jx_okM 103 jm_i103 := ⟨by decide +kernel, rfl, by decide +kernel, ⟨by decide +kernel, by decide +kernel⟩, by decide +kernel, jx_mem (i := 671) (by decide +kernel) rfl, jx_mem (i := 110) (by decide +kernel) rfl, fun _ => ⟨jx_mem (i := 669) (by decide +kernel) rfl, jx_mem (i := 670) (by decide +kernel) rfl, by decide⟩, fun h => absurd h (by decide), fun h => absurd h (by decide), by decide, by decide, by decide, by decide +kernel, by decide +kernel⟩
-- OfDifferentMinds$Standing.setHorse(I)V
def jm_b104_0 : List jx_E := (0, 2, (0, 0, 0, 0), 0, []) :: (1, 33, (8, 0, 0, 11), 0, []) :: (4, 9, (0, 0, 0, 0), 24, []) :: (6, 0, (1, 0, 0, 0), 0, []) :: (7, 41, (0, 0, 0, 0), 0, []) :: (8, 71, (0, 0, 0, 0), 0, []) :: []
def jm_l104 : jx_B := [(0, jm_b104_0)]
def jm_i104 : jx_M := (⟨"OfDifferentMinds$Standing", "setHorse", "(I)V"⟩, prog_10_method_18_code, 2, none, 0, 2, 8, jm_l104)
theorem jm_ok104 : jx_okM 104 jm_i104 := ⟨by decide +kernel, rfl, by decide +kernel, ⟨by decide +kernel, by decide +kernel⟩, by decide +kernel, jx_mem (i := 777) (by decide +kernel) rfl, jx_mem (i := 110) (by decide +kernel) rfl, fun _ => ⟨jx_mem (i := 775) (by decide +kernel) rfl, jx_mem (i := 776) (by decide +kernel) rfl, by decide⟩, fun h => absurd h (by decide), fun h => absurd h (by decide), by decide, by decide, by decide, by decide +kernel, by decide +kernel⟩
-- OfDifferentMinds$Standing.first()I
def jm_b105_0 : List jx_E := (0, 2, (0, 0, 0, 0), 0, []) :: (1, 33, (8, 0, 0, 11), 0, []) :: (4, 9, (0, 0, 0, 0), 25, []) :: (6, 38, (0, 0, 0, 0), 0, []) :: (7, 69, (0, 0, 0, 0), 0, []) :: []
def jm_l105 : jx_B := [(0, jm_b105_0)]
def jm_i105 : jx_M := (⟨"OfDifferentMinds$Standing", "first", "()I"⟩, prog_10_method_19_code, 1, (some .int), 0, 1, 8, jm_l105)
theorem jm_ok105 : jx_okM 105 jm_i105 := ⟨by decide +kernel, rfl, by decide +kernel, ⟨by decide +kernel, by decide +kernel⟩, by decide +kernel, jx_mem (i := 709) (by decide +kernel) rfl, jx_mem (i := 110) (by decide +kernel) rfl, fun _ => ⟨jx_mem (i := 707) (by decide +kernel) rfl, jx_mem (i := 708) (by decide +kernel) rfl, by decide⟩, fun h => absurd h (by decide), fun h => absurd h (by decide), by decide, by decide, by decide, by decide +kernel, by decide +kernel⟩
-- OfDifferentMinds$Standing.second()I
def jm_b106_0 : List jx_E := (0, 2, (0, 0, 0, 0), 0, []) :: (1, 33, (8, 0, 0, 11), 0, []) :: (4, 9, (0, 0, 0, 0), 26, []) :: (6, 38, (0, 0, 0, 0), 0, []) :: (7, 69, (0, 0, 0, 0), 0, []) :: []
def jm_l106 : jx_B := [(0, jm_b106_0)]
def jm_i106 : jx_M := (⟨"OfDifferentMinds$Standing", "second", "()I"⟩, prog_10_method_20_code, 1, (some .int), 0, 1, 8, jm_l106)
theorem jm_ok106 : jx_okM 106 jm_i106 := ⟨by decide +kernel, rfl, by decide +kernel, ⟨by decide +kernel, by decide +kernel⟩, by decide +kernel, jx_mem (i := 713) (by decide +kernel) rfl, jx_mem (i := 110) (by decide +kernel) rfl, fun _ => ⟨jx_mem (i := 711) (by decide +kernel) rfl, jx_mem (i := 712) (by decide +kernel) rfl, by decide⟩, fun h => absurd h (by decide), fun h => absurd h (by decide), by decide, by decide, by decide, by decide +kernel, by decide +kernel⟩
-- OfDifferentMinds$Standing.steps()I
def jm_b107_0 : List jx_E := (0, 2, (0, 0, 0, 0), 0, []) :: (1, 33, (8, 0, 0, 11), 0, []) :: (4, 9, (0, 0, 0, 0), 27, []) :: (6, 38, (0, 0, 0, 0), 0, []) :: (7, 69, (0, 0, 0, 0), 0, []) :: []
def jm_l107 : jx_B := [(0, jm_b107_0)]
def jm_i107 : jx_M := (⟨"OfDifferentMinds$Standing", "steps", "()I"⟩, prog_10_method_21_code, 1, (some .int), 0, 1, 8, jm_l107)
theorem jm_ok107 : jx_okM 107 jm_i107 := ⟨by decide +kernel, rfl, by decide +kernel, ⟨by decide +kernel, by decide +kernel⟩, by decide +kernel, jx_mem (i := 731) (by decide +kernel) rfl, jx_mem (i := 110) (by decide +kernel) rfl, fun _ => ⟨jx_mem (i := 729) (by decide +kernel) rfl, jx_mem (i := 730) (by decide +kernel) rfl, by decide⟩, fun h => absurd h (by decide), fun h => absurd h (by decide), by decide, by decide, by decide, by decide +kernel, by decide +kernel⟩
-- OfDifferentMinds$Standing.setSteps(I)V
def jm_b108_0 : List jx_E := (0, 2, (0, 0, 0, 0), 0, []) :: (1, 33, (8, 0, 0, 11), 0, []) :: (4, 9, (0, 0, 0, 0), 27, []) :: (6, 0, (1, 0, 0, 0), 0, []) :: (7, 41, (0, 0, 0, 0), 0, []) :: (8, 71, (0, 0, 0, 0), 0, []) :: []
def jm_l108 : jx_B := [(0, jm_b108_0)]
def jm_i108 : jx_M := (⟨"OfDifferentMinds$Standing", "setSteps", "(I)V"⟩, prog_10_method_22_code, 2, none, 0, 2, 8, jm_l108)
theorem jm_ok108 : jx_okM 108 jm_i108 := ⟨by decide +kernel, rfl, by decide +kernel, ⟨by decide +kernel, by decide +kernel⟩, by decide +kernel, jx_mem (i := 781) (by decide +kernel) rfl, jx_mem (i := 110) (by decide +kernel) rfl, fun _ => ⟨jx_mem (i := 779) (by decide +kernel) rfl, jx_mem (i := 780) (by decide +kernel) rfl, by decide⟩, fun h => absurd h (by decide), fun h => absurd h (by decide), by decide, by decide, by decide, by decide +kernel, by decide +kernel⟩
-- OfDifferentMinds$Standing.isMounted()Z
def jm_b109_16 : List jx_E := (16, 70, (0, 0, 0, 0), 0, []) :: []
def jm_b109_15 : List jx_E := (15, 8, (0, 0, 0, 0), 0, []) :: jm_b109_16
def jm_b109_0 : List jx_E := (0, 2, (0, 0, 0, 0), 0, []) :: (1, 33, (8, 0, 0, 11), 0, []) :: (4, 9, (0, 0, 0, 0), 25, []) :: (6, 38, (0, 0, 0, 0), 0, []) :: (7, 8, (0, 0, 0, 0), (-1), []) :: (8, 61, (15, 0, 0, 0), 0, []) :: (11, 8, (0, 0, 0, 0), 1, []) :: (12, 54, (16, 0, 0, 0), 0, []) :: []
def jm_l109 : jx_B := [(0, jm_b109_0), (15, jm_b109_15), (16, jm_b109_16)]
def jm_i109 : jx_M := (⟨"OfDifferentMinds$Standing", "isMounted", "()Z"⟩, prog_10_method_23_code, 1, (some .boolean), 0, 1, 8, jm_l109)
theorem jm_ok109 : jx_okM 109 jm_i109 := ⟨by decide +kernel, rfl, by decide +kernel, ⟨by decide +kernel, by decide +kernel⟩, by decide +kernel, jx_mem (i := 667) (by decide +kernel) rfl, jx_mem (i := 110) (by decide +kernel) rfl, fun _ => ⟨jx_mem (i := 665) (by decide +kernel) rfl, jx_mem (i := 666) (by decide +kernel) rfl, by decide⟩, fun h => absurd h (by decide), fun h => absurd h (by decide), by decide, by decide, by decide, by decide +kernel, by decide +kernel⟩
-- OfDifferentMinds$Standing.isUp(I)Z
def jm_b110_32 : List jx_E := (32, 70, (0, 0, 0, 0), 0, []) :: []
def jm_b110_31 : List jx_E := (31, 8, (0, 0, 0, 0), 0, []) :: jm_b110_32
def jm_b110_27 : List jx_E := (27, 8, (0, 0, 0, 0), 1, []) :: (28, 54, (32, 0, 0, 0), 0, []) :: []
def jm_b110_0 : List jx_E := (0, 0, (1, 0, 0, 0), 0, []) :: (1, 8, (0, 0, 0, 0), (-1), []) :: (2, 61, (31, 0, 0, 0), 0, []) :: (5, 2, (0, 0, 0, 0), 0, []) :: (6, 33, (8, 0, 0, 11), 0, []) :: (9, 9, (0, 0, 0, 0), 25, []) :: (11, 38, (0, 0, 0, 0), 0, []) :: (12, 0, (1, 0, 0, 0), 0, []) :: (13, 61, (27, 0, 0, 0), 0, []) :: (16, 2, (0, 0, 0, 0), 0, []) :: (17, 33, (8, 0, 0, 11), 0, []) :: (20, 9, (0, 0, 0, 0), 26, []) :: (22, 38, (0, 0, 0, 0), 0, []) :: (23, 0, (1, 0, 0, 0), 0, []) :: (24, 62, (31, 0, 0, 0), 0, []) :: jm_b110_27
def jm_l110 : jx_B := [(0, jm_b110_0), (27, jm_b110_27), (31, jm_b110_31), (32, jm_b110_32)]
def jm_i110 : jx_M := (⟨"OfDifferentMinds$Standing", "isUp", "(I)Z"⟩, prog_10_method_24_code, 2, (some .boolean), 0, 2, 8, jm_l110)
theorem jm_ok110 : jx_okM 110 jm_i110 := ⟨by decide +kernel, rfl, by decide +kernel, ⟨by decide +kernel, by decide +kernel⟩, by decide +kernel, jx_mem (i := 830) (by decide +kernel) rfl, jx_mem (i := 110) (by decide +kernel) rfl, fun _ => ⟨jx_mem (i := 828) (by decide +kernel) rfl, jx_mem (i := 829) (by decide +kernel) rfl, by decide⟩, fun h => absurd h (by decide), fun h => absurd h (by decide), by decide, by decide, by decide, by decide +kernel, by decide +kernel⟩
-- OfDifferentMinds$Standing.seat(II)V
def jm_b111_0 : List jx_E := (0, 2, (0, 0, 0, 0), 0, []) :: (1, 33, (8, 0, 0, 11), 0, []) :: (4, 9, (0, 0, 0, 0), 25, []) :: (6, 0, (1, 0, 0, 0), 0, []) :: (7, 41, (0, 0, 0, 0), 0, []) :: (8, 2, (0, 0, 0, 0), 0, []) :: (9, 33, (8, 0, 0, 11), 0, []) :: (12, 9, (0, 0, 0, 0), 26, []) :: (14, 0, (2, 0, 0, 0), 0, []) :: (15, 41, (0, 0, 0, 0), 0, []) :: (16, 2, (0, 0, 0, 0), 0, []) :: (17, 33, (8, 0, 0, 11), 0, []) :: (20, 9, (0, 0, 0, 0), 27, []) :: (22, 8, (0, 0, 0, 0), 0, []) :: (23, 41, (0, 0, 0, 0), 0, []) :: (24, 71, (0, 0, 0, 0), 0, []) :: []
def jm_l111 : jx_B := [(0, jm_b111_0)]
def jm_i111 : jx_M := (⟨"OfDifferentMinds$Standing", "seat", "(II)V"⟩, prog_10_method_25_code, 3, none, 0, 3, 8, jm_l111)
theorem jm_ok111 : jx_okM 111 jm_i111 := ⟨by decide +kernel, rfl, by decide +kernel, ⟨by decide +kernel, by decide +kernel⟩, by decide +kernel, jx_mem (i := 468) (by decide +kernel) rfl, jx_mem (i := 110) (by decide +kernel) rfl, fun _ => ⟨jx_mem (i := 466) (by decide +kernel) rfl, jx_mem (i := 467) (by decide +kernel) rfl, by decide⟩, fun h => absurd h (by decide), fun h => absurd h (by decide), by decide, by decide, by decide, by decide +kernel, by decide +kernel⟩
-- OfDifferentMinds$Text.<init>()V
def jm_b112_0 : List jx_E := (0, 2, (0, 0, 0, 0), 0, []) :: (1, 52, (0, 0, 0, 3), 0, []) :: (4, 2, (0, 0, 0, 0), 0, []) :: (5, 9, (0, 0, 0, 0), 80, []) :: (7, 46, (0, 0, 0, 0), 0, []) :: (9, 37, (9, 0, 0, 9), 0, []) :: (12, 71, (0, 0, 0, 0), 0, []) :: []
def jm_l112 : jx_B := [(0, jm_b112_0)]
def jm_i112 : jx_M := (⟨"OfDifferentMinds$Text", "<init>", "()V"⟩, prog_11_method_1_code, 1, none, 1, 1, 9, jm_l112)
theorem jm_ok112 : jx_okM 112 jm_i112 := ⟨by decide +kernel, rfl, by decide +kernel, ⟨by decide +kernel, by decide +kernel⟩, by decide +kernel, jx_mem (i := 137) (by decide +kernel) rfl, jx_mem (i := 107) (by decide +kernel) rfl, fun h => absurd h (by decide), fun _ => ⟨rfl, jx_mem (i := 136) (by decide +kernel) rfl, rfl⟩, fun h => absurd h (by decide), by decide, by decide, by decide, by decide +kernel, by decide +kernel⟩
-- OfDifferentMinds$Text.length()I
def jm_b113_0 : List jx_E := (0, 2, (0, 0, 0, 0), 0, []) :: (1, 32, (9, 1, 0, 15), 0, []) :: (4, 69, (0, 0, 0, 0), 0, []) :: []
def jm_l113 : jx_B := [(0, jm_b113_0)]
def jm_i113 : jx_M := (⟨"OfDifferentMinds$Text", "length", "()I"⟩, prog_11_method_2_code, 1, (some .int), 0, 1, 9, jm_l113)
theorem jm_ok113 : jx_okM 113 jm_i113 := ⟨by decide +kernel, rfl, by decide +kernel, ⟨by decide +kernel, by decide +kernel⟩, by decide +kernel, jx_mem (i := 442) (by decide +kernel) rfl, jx_mem (i := 107) (by decide +kernel) rfl, fun _ => ⟨jx_mem (i := 440) (by decide +kernel) rfl, jx_mem (i := 441) (by decide +kernel) rfl, by decide⟩, fun h => absurd h (by decide), fun h => absurd h (by decide), by decide, by decide, by decide, by decide +kernel, by decide +kernel⟩
-- OfDifferentMinds$Text.at(I)I
def jm_b114_22 : List jx_E := (22, 69, (0, 0, 0, 0), 0, []) :: []
def jm_b114_21 : List jx_E := (21, 8, (0, 0, 0, 0), (-1), []) :: jm_b114_22
def jm_b114_0 : List jx_E := (0, 0, (1, 0, 0, 0), 0, []) :: (1, 57, (21, 0, 0, 0), 0, []) :: (4, 0, (1, 0, 0, 0), 0, []) :: (5, 2, (0, 0, 0, 0), 0, []) :: (6, 32, (9, 1, 0, 15), 0, []) :: (9, 64, (21, 0, 0, 0), 0, []) :: (12, 2, (0, 0, 0, 0), 0, []) :: (13, 33, (9, 0, 0, 9), 0, []) :: (16, 0, (1, 0, 0, 0), 0, []) :: (17, 38, (0, 0, 0, 0), 0, []) :: (18, 54, (22, 0, 0, 0), 0, []) :: []
def jm_l114 : jx_B := [(0, jm_b114_0), (21, jm_b114_21), (22, jm_b114_22)]
def jm_i114 : jx_M := (⟨"OfDifferentMinds$Text", "at", "(I)I"⟩, prog_11_method_3_code, 2, (some .int), 0, 2, 9, jm_l114)
theorem jm_ok114 : jx_okM 114 jm_i114 := ⟨by decide +kernel, rfl, by decide +kernel, ⟨by decide +kernel, by decide +kernel⟩, by decide +kernel, jx_mem (i := 446) (by decide +kernel) rfl, jx_mem (i := 107) (by decide +kernel) rfl, fun _ => ⟨jx_mem (i := 444) (by decide +kernel) rfl, jx_mem (i := 445) (by decide +kernel) rfl, by decide⟩, fun h => absurd h (by decide), fun h => absurd h (by decide), by decide, by decide, by decide, by decide +kernel, by decide +kernel⟩
-- OfDifferentMinds$Text.add(I)I
def jm_b115_52 : List jx_E := (52, 2, (0, 0, 0, 0), 0, []) :: (53, 32, (9, 1, 0, 15), 0, []) :: (56, 69, (0, 0, 0, 0), 0, []) :: []
def jm_b115_16 : List jx_E := (16, 0, (2, 0, 0, 0), 0, []) :: (17, 57, (52, 0, 0, 0), 0, []) :: (20, 2, (0, 0, 0, 0), 0, []) :: (21, 33, (9, 0, 0, 9), 0, []) :: (24, 2, (0, 0, 0, 0), 0, []) :: (25, 32, (9, 1, 0, 15), 0, []) :: (28, 0, (1, 0, 0, 0), 0, []) :: (29, 0, (2, 0, 0, 0), 0, []) :: (30, 25, (0, 0, 0, 0), 0, []) :: (31, 10, (0, 0, 0, 0), 255, []) :: (34, 20, (0, 0, 0, 0), 0, []) :: (35, 41, (0, 0, 0, 0), 0, []) :: (36, 2, (0, 0, 0, 0), 0, []) :: (37, 28, (0, 0, 0, 0), 0, []) :: (38, 32, (9, 1, 0, 15), 0, []) :: (41, 8, (0, 0, 0, 0), 1, []) :: (42, 14, (0, 0, 0, 0), 0, []) :: (43, 34, (9, 1, 0, 15), 0, []) :: (46, 13, (2, 0, 0, 0), (-8), []) :: (49, 54, (16, 0, 0, 0), 0, []) :: []
def jm_b115_13 : List jx_E := (13, 9, (0, 0, 0, 0), 24, []) :: (15, 4, (2, 0, 0, 0), 0, []) :: jm_b115_16
def jm_b115_0 : List jx_E := (0, 2, (0, 0, 0, 0), 0, []) :: (1, 32, (9, 1, 0, 15), 0, []) :: (4, 8, (0, 0, 0, 0), 4, []) :: (5, 14, (0, 0, 0, 0), 0, []) :: (6, 9, (0, 0, 0, 0), 80, []) :: (8, 66, (13, 0, 0, 0), 0, []) :: (11, 8, (0, 0, 0, 0), (-1), []) :: (12, 69, (0, 0, 0, 0), 0, []) :: []
def jm_l115 : jx_B := [(0, jm_b115_0), (13, jm_b115_13), (16, jm_b115_16), (52, jm_b115_52)]
def jm_i115 : jx_M := (⟨"OfDifferentMinds$Text", "add", "(I)I"⟩, prog_11_method_4_code, 3, (some .int), 0, 2, 9, jm_l115)
theorem jm_ok115 : jx_okM 115 jm_i115 := ⟨by decide +kernel, rfl, by decide +kernel, ⟨by decide +kernel, by decide +kernel⟩, by decide +kernel, jx_mem (i := 385) (by decide +kernel) rfl, jx_mem (i := 107) (by decide +kernel) rfl, fun _ => ⟨jx_mem (i := 383) (by decide +kernel) rfl, jx_mem (i := 384) (by decide +kernel) rfl, by decide⟩, fun h => absurd h (by decide), fun h => absurd h (by decide), by decide, by decide, by decide, by decide +kernel, by decide +kernel⟩
-- OfDifferentMinds$Text.cut(I)Z
def jm_b116_14 : List jx_E := (14, 2, (0, 0, 0, 0), 0, []) :: (15, 0, (1, 0, 0, 0), 0, []) :: (16, 34, (9, 1, 0, 15), 0, []) :: (19, 8, (0, 0, 0, 0), 1, []) :: (20, 70, (0, 0, 0, 0), 0, []) :: []
def jm_b116_12 : List jx_E := (12, 8, (0, 0, 0, 0), 0, []) :: (13, 70, (0, 0, 0, 0), 0, []) :: []
def jm_b116_0 : List jx_E := (0, 0, (1, 0, 0, 0), 0, []) :: (1, 57, (12, 0, 0, 0), 0, []) :: (4, 0, (1, 0, 0, 0), 0, []) :: (5, 2, (0, 0, 0, 0), 0, []) :: (6, 32, (9, 1, 0, 15), 0, []) :: (9, 66, (14, 0, 0, 0), 0, []) :: jm_b116_12
def jm_l116 : jx_B := [(0, jm_b116_0), (12, jm_b116_12), (14, jm_b116_14)]
def jm_i116 : jx_M := (⟨"OfDifferentMinds$Text", "cut", "(I)Z"⟩, prog_11_method_5_code, 2, (some .boolean), 0, 2, 9, jm_l116)
theorem jm_ok116 : jx_okM 116 jm_i116 := ⟨by decide +kernel, rfl, by decide +kernel, ⟨by decide +kernel, by decide +kernel⟩, by decide +kernel, jx_mem (i := 393) (by decide +kernel) rfl, jx_mem (i := 107) (by decide +kernel) rfl, fun _ => ⟨jx_mem (i := 391) (by decide +kernel) rfl, jx_mem (i := 392) (by decide +kernel) rfl, by decide⟩, fun h => absurd h (by decide), fun h => absurd h (by decide), by decide, by decide, by decide, by decide +kernel, by decide +kernel⟩
-- OfDifferentMinds$Text.clear()V
def jm_b117_0 : List jx_E := (0, 2, (0, 0, 0, 0), 0, []) :: (1, 8, (0, 0, 0, 0), 0, []) :: (2, 34, (9, 1, 0, 15), 0, []) :: (5, 71, (0, 0, 0, 0), 0, []) :: []
def jm_l117 : jx_B := [(0, jm_b117_0)]
def jm_i117 : jx_M := (⟨"OfDifferentMinds$Text", "clear", "()V"⟩, prog_11_method_6_code, 1, none, 0, 1, 9, jm_l117)
theorem jm_ok117 : jx_okM 117 jm_i117 := ⟨by decide +kernel, rfl, by decide +kernel, ⟨by decide +kernel, by decide +kernel⟩, by decide +kernel, jx_mem (i := 476) (by decide +kernel) rfl, jx_mem (i := 107) (by decide +kernel) rfl, fun _ => ⟨jx_mem (i := 474) (by decide +kernel) rfl, jx_mem (i := 475) (by decide +kernel) rfl, by decide⟩, fun h => absurd h (by decide), fun h => absurd h (by decide), by decide, by decide, by decide, by decide +kernel, by decide +kernel⟩
-- OfDifferentMinds$Text.open(I)V
def jm_b118_0 : List jx_E := (0, 2, (0, 0, 0, 0), 0, []) :: (1, 0, (1, 0, 0, 0), 0, []) :: (2, 34, (9, 2, 0, 19), 0, []) :: (5, 2, (0, 0, 0, 0), 0, []) :: (6, 8, (0, 0, 0, 0), 0, []) :: (7, 34, (9, 3, 0, 22), 0, []) :: (10, 71, (0, 0, 0, 0), 0, []) :: []
def jm_l118 : jx_B := [(0, jm_b118_0)]
def jm_i118 : jx_M := (⟨"OfDifferentMinds$Text", "open", "(I)V"⟩, prog_11_method_7_code, 2, none, 0, 2, 9, jm_l118)
theorem jm_ok118 : jx_okM 118 jm_i118 := ⟨by decide +kernel, rfl, by decide +kernel, ⟨by decide +kernel, by decide +kernel⟩, by decide +kernel, jx_mem (i := 407) (by decide +kernel) rfl, jx_mem (i := 107) (by decide +kernel) rfl, fun _ => ⟨jx_mem (i := 405) (by decide +kernel) rfl, jx_mem (i := 406) (by decide +kernel) rfl, by decide⟩, fun h => absurd h (by decide), fun h => absurd h (by decide), by decide, by decide, by decide, by decide +kernel, by decide +kernel⟩
-- OfDifferentMinds$Text.position()I
def jm_b119_0 : List jx_E := (0, 2, (0, 0, 0, 0), 0, []) :: (1, 32, (9, 3, 0, 22), 0, []) :: (4, 69, (0, 0, 0, 0), 0, []) :: []
def jm_l119 : jx_B := [(0, jm_b119_0)]
def jm_i119 : jx_M := (⟨"OfDifferentMinds$Text", "position", "()I"⟩, prog_11_method_8_code, 1, (some .int), 0, 1, 9, jm_l119)
theorem jm_ok119 : jx_okM 119 jm_i119 := ⟨by decide +kernel, rfl, by decide +kernel, ⟨by decide +kernel, by decide +kernel⟩, by decide +kernel, jx_mem (i := 426) (by decide +kernel) rfl, jx_mem (i := 107) (by decide +kernel) rfl, fun _ => ⟨jx_mem (i := 424) (by decide +kernel) rfl, jx_mem (i := 425) (by decide +kernel) rfl, by decide⟩, fun h => absurd h (by decide), fun h => absurd h (by decide), by decide, by decide, by decide, by decide +kernel, by decide +kernel⟩
