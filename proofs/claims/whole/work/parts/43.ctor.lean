/-! The constructors: their listings, links, and the cells that they make -/
def qi_mt : List qM := [
  (yX8_init, prog_10_method_1_code, 1, 0, 1, 80),
  (yX3_init, prog_5_method_1_code, 1, 0, 10, 88),
  (yX5_init, prog_7_method_1_code, 1, 0, 2, 10),
  (yX6_init, prog_8_method_1_code, 1, 0, 4, 125),
  (yX1_init, prog_3_method_1_code, 4, 3, 2, 12),
  (yX9_init, prog_11_method_1_code, 3, 2, 7, 40),
  (yX4_init, prog_6_method_1_code, 1, 0, 1, 780),
  (yX0_init, prog_2_method_1_code, 1, 0, 1, 6),
  (yX7_init, prog_9_method_1_code, 1, 0, 1, 10),
  (yX2_init, prog_4_method_1_code, 1, 0, 3, 76),
  (yX10_init, prog_1_method_1_code, 1, 0, 50, 1361),
  (yX11_init, prog_13_method_1_code, 1, 0, 30, 2235)]
def qi_mp : List (Nat × Nat × Nat) := [(219, 218, 190), (246, 245, 191), (315, 314, 192), (337, 336, 193), (394, 393, 194), (455, 454, 195), (502, 501, 196), (522, 521, 197), (557, 556, 198), (572, 571, 199), (211, 210, 189), (1503, 1502, 200)]
set_option maxRecDepth 20000 in
theorem qi_codes : qi_mt.map (fun r => some (Jvm.Cond.code r.1 r.2.1 r.2.2.1 none)) = qi_mp.map (fun z => lw_tbl[z.1]?) := rfl
set_option maxRecDepth 20000 in
theorem qi_mt_ok : (qi_mt.zip qi_mp).all qi_mtB = true := by decide +kernel
theorem qi_qt : qi_Qt qi_mt := by
  intro id r h
  rw [px_nth_eq] at h
  have h1 := congrArg (fun l => l[id]?) qi_codes
  simp only [List.getElem?_map, h, Option.map_some] at h1
  cases hz : qi_mp[id]? with
  | none => rw [hz] at h1; cases h1
  | some z =>
    rw [hz] at h1
    have hc := px_TB_of (List.mem_of_getElem? (Option.some.inj h1).symm) rfl
    have h4 : (qi_mt.zip qi_mp)[id]? = some (r, z) := by
      rw [List.getElem?_zip_eq_some]
      exact ⟨h, hz⟩
    have h5 := List.all_eq_true.mp qi_mt_ok _ (List.mem_of_getElem? h4)
    unfold qi_mtB at h5
    simp only [Bool.and_eq_true] at h5
    exact ⟨hc, px_TB_of (px_at_mem h5.1) rfl, px_TB_of (px_at_mem h5.2.1) rfl, of_decide_eq_true h5.2.2.1, of_decide_eq_true h5.2.2.2.1, h5.2.2.2.2.1, Nat.le_of_ble_eq_true h5.2.2.2.2.2⟩
def qi_code0 : pCode := [(0, .aload_n 0, 1), (1, .invokespecial 3, 3), (4, .aload_n 0, 1), (5, .bipush (80), 2), (7, .newarray .char, 2), (9, .putfield 11, 3), (12, .return_, 1)]
set_option maxRecDepth 20000 in
theorem qi_code0_ok : px_code prog_10_method_1_code qi_code0 = true := by decide +kernel
def qi_X0 : qX := (RX8, [(11, 8, 0, 221), (15, 8, 1, 222), (19, 8, 2, 227), (28, 8, 3, 228), (31, 8, 4, 229)], [], [(3, 220)], [])
set_option maxRecDepth 20000 in
theorem qi_X0_ok : qi_ctxB qi_mt qi_X0 = true := by decide +kernel
def qi_code1 : pCode := [(0, .aload_n 0, 1), (1, .invokespecial 3, 3), (4, .aload_n 0, 1), (5, .bipush (6), 2), (7, .newarray .int, 2), (9, .putfield 9, 3), (12, .aload_n 0, 1), (13, .bipush (6), 2), (15, .newarray .int, 2), (17, .putfield 15, 3), (20, .aload_n 0, 1), (21, .bipush (6), 2), (23, .newarray .int, 2), (25, .putfield 18, 3), (28, .aload_n 0, 1), (29, .bipush (10), 2), (31, .newarray .int, 2), (33, .putfield 21, 3), (36, .aload_n 0, 1), (37, .bipush (10), 2), (39, .newarray .int, 2), (41, .putfield 24, 3), (44, .aload_n 0, 1), (45, .bipush (10), 2), (47, .newarray .int, 2), (49, .putfield 27, 3), (52, .aload_n 0, 1), (53, .bipush (10), 2), (55, .newarray .int, 2), (57, .putfield 30, 3), (60, .aload_n 0, 1), (61, .bipush (10), 2), (63, .newarray .int, 2), (65, .putfield 33, 3), (68, .aload_n 0, 1), (69, .bipush (10), 2), (71, .newarray .int, 2), (73, .putfield 36, 3), (76, .aload_n 0, 1), (77, .bipush (10), 2), (79, .newarray .int, 2), (81, .putfield 39, 3), (84, .return_, 1)]
set_option maxRecDepth 20000 in
theorem qi_code1_ok : px_code prog_5_method_1_code qi_code1 = true := by decide +kernel
def qi_X1 : qX := (RX3, [(42, 8, 1, 223), (9, 3, 0, 248), (15, 3, 1, 251), (18, 3, 2, 254), (21, 3, 3, 256), (24, 3, 4, 258), (27, 3, 5, 262), (30, 3, 6, 265), (33, 3, 7, 268), (36, 3, 8, 271), (39, 3, 9, 273), (48, 3, 10, 275), (54, 3, 11, 277), (51, 3, 12, 279), (57, 3, 13, 280)], [], [(3, 247)], [])
set_option maxRecDepth 20000 in
theorem qi_X1_ok : qi_ctxB qi_mt qi_X1 = true := by decide +kernel
def qi_code2 : pCode := [(0, .aload_n 0, 1), (1, .invokespecial 3, 3), (4, .aload_n 0, 1), (5, .iconst 5, 1), (6, .newarray .int, 2), (8, .putfield 11, 3), (11, .aload_n 0, 1), (12, .iconst 5, 1), (13, .newarray .int, 2), (15, .putfield 15, 3), (18, .aload_n 0, 1), (19, .bipush (20), 2), (21, .putfield 18, 3), (24, .return_, 1)]
set_option maxRecDepth 20000 in
theorem qi_code2_ok : px_code prog_7_method_1_code qi_code2 = true := by decide +kernel
def qi_X2 : qX := (RX5, [(11, 5, 0, 317), (15, 5, 1, 319), (48, 5, 2, 320), (18, 5, 3, 322)], [], [(3, 316)], [])
set_option maxRecDepth 20000 in
theorem qi_X2_ok : qi_ctxB qi_mt qi_X2 = true := by decide +kernel
def qi_code3 : pCode := [(0, .aload_n 0, 1), (1, .invokespecial 3, 3), (4, .aload_n 0, 1), (5, .bipush (40), 2), (7, .newarray .int, 2), (9, .putfield 11, 3), (12, .aload_n 0, 1), (13, .bipush (40), 2), (15, .newarray .int, 2), (17, .putfield 15, 3), (20, .aload_n 0, 1), (21, .bipush (40), 2), (23, .newarray .int, 2), (25, .putfield 18, 3), (28, .aload_n 0, 1), (29, .iconst 5, 1), (30, .newarray .boolean, 2), (32, .putfield 21, 3), (35, .return_, 1)]
set_option maxRecDepth 20000 in
theorem qi_code3_ok : px_code prog_8_method_1_code qi_code3 = true := by decide +kernel
def qi_X3 : qX := (RX6, [(29, 8, 1, 225), (11, 6, 0, 339), (15, 6, 1, 340), (18, 6, 2, 341), (21, 6, 3, 342), (42, 6, 4, 343), (25, 6, 5, 344), (55, 6, 6, 345), (58, 6, 7, 346), (127, 6, 8, 348), (118, 6, 9, 349), (121, 6, 10, 350), (124, 6, 11, 351), (136, 6, 12, 353), (139, 6, 13, 355), (142, 6, 14, 357)], [], [(3, 338)], [])
set_option maxRecDepth 20000 in
theorem qi_X3_ok : qi_ctxB qi_mt qi_X3 = true := by decide +kernel
def qi_code4 : pCode := [(0, .aload_n 0, 1), (1, .invokespecial 3, 3), (4, .aload_n 0, 1), (5, .aload_n 1, 1), (6, .putfield 9, 3), (9, .aload_n 0, 1), (10, .aload_n 2, 1), (11, .putfield 15, 3), (14, .aload_n 0, 1), (15, .aload_n 3, 1), (16, .putfield 19, 3), (19, .aload_n 0, 1), (20, .bipush (6), 2), (22, .newarray .int, 2), (24, .putfield 23, 3), (27, .aload_n 0, 1), (28, .bipush (6), 2), (30, .newarray .int, 2), (32, .putfield 27, 3), (35, .return_, 1)]
set_option maxRecDepth 20000 in
theorem qi_code4_ok : px_code prog_3_method_1_code qi_code4 = true := by decide +kernel
def qi_X4 : qX := (RX1, [(144, 3, 0, 250), (36, 3, 1, 252), (79, 3, 4, 260), (114, 3, 5, 263), (122, 3, 6, 266), (135, 3, 7, 269), (117, 6, 8, 347), (134, 6, 12, 352), (125, 6, 13, 354), (141, 6, 14, 356), (9, 1, 0, 396), (15, 1, 1, 397), (19, 1, 2, 398), (23, 1, 3, 399), (27, 1, 4, 401), (73, 1, 5, 402), (54, 1, 6, 404), (58, 1, 7, 407), (61, 1, 8, 409), (70, 1, 9, 411), (86, 1, 10, 414), (89, 1, 11, 416), (105, 1, 12, 418), (154, 1, 13, 420)], [], [(3, 395)], [])
set_option maxRecDepth 20000 in
theorem qi_X4_ok : qi_ctxB qi_mt qi_X4 = true := by decide +kernel
def qi_code5 : pCode := [(0, .aload_n 0, 1), (1, .invokespecial 3, 3), (4, .aload_n 0, 1), (5, .aload_n 1, 1), (6, .putfield 9, 3), (9, .aload_n 0, 1), (10, .aload_n 2, 1), (11, .putfield 15, 3), (14, .aload_n 0, 1), (15, .bipush (10), 2), (17, .newarray .int, 2), (19, .putfield 19, 3), (22, .aload_n 0, 1), (23, .iconst 4, 1), (24, .newarray .int, 2), (26, .putfield 23, 3), (29, .aload_n 0, 1), (30, .iconst 4, 1), (31, .newarray .int, 2), (33, .putfield 26, 3), (36, .aload_n 0, 1), (37, .iconst 4, 1), (38, .newarray .int, 2), (40, .putfield 29, 3), (43, .aload_n 0, 1), (44, .iconst 4, 1), (45, .newarray .int, 2), (47, .putfield 32, 3), (50, .aload_n 0, 1), (51, .iconst 4, 1), (52, .newarray .int, 2), (54, .putfield 35, 3), (57, .aload_n 0, 1), (58, .bipush (10), 2), (60, .newarray .int, 2), (62, .putfield 38, 3), (65, .return_, 1)]
set_option maxRecDepth 20000 in
theorem qi_code5_ok : px_code prog_11_method_1_code qi_code5 = true := by decide +kernel
def qi_X5 : qX := (RX9, [(41, 3, 4, 259), (75, 1, 6, 405), (105, 1, 9, 412), (9, 9, 0, 457), (15, 9, 1, 458), (19, 9, 2, 459), (23, 9, 3, 460), (26, 9, 4, 461), (29, 9, 5, 462), (32, 9, 6, 463), (35, 9, 7, 464), (38, 9, 8, 465), (66, 9, 9, 466), (62, 9, 10, 468), (69, 9, 11, 469), (72, 9, 12, 470)], [], [(3, 456)], [])
set_option maxRecDepth 20000 in
theorem qi_X5_ok : qi_ctxB qi_mt qi_X5 = true := by decide +kernel
def qi_code6 : pCode := [(0, .aload_n 0, 1), (1, .invokespecial 5, 3), (4, .aload_n 0, 1), (5, .sipush (780), 3), (8, .newarray .int, 2), (10, .putfield 11, 3), (13, .return_, 1)]
set_option maxRecDepth 20000 in
theorem qi_code6_ok : px_code prog_6_method_1_code qi_code6 = true := by decide +kernel
def qi_X6 : qX := (RX4, [(11, 4, 0, 504), (37, 4, 1, 505), (28, 4, 2, 506), (15, 4, 3, 508)], [], [(5, 503)], [])
set_option maxRecDepth 20000 in
theorem qi_X6_ok : qi_ctxB qi_mt qi_X6 = true := by decide +kernel
def qi_code7 : pCode := [(0, .aload_n 0, 1), (1, .invokespecial 3, 3), (4, .aload_n 0, 1), (5, .bipush (6), 2), (7, .newarray .int, 2), (9, .putfield 9, 3), (12, .return_, 1)]
set_option maxRecDepth 20000 in
theorem qi_code7_ok : px_code prog_2_method_1_code qi_code7 = true := by decide +kernel
def qi_X7 : qX := (RX0, [(15, 8, 1, 224), (9, 0, 0, 524), (85, 0, 1, 526), (41, 0, 2, 528), (57, 0, 3, 530), (63, 0, 4, 532), (76, 0, 5, 534), (66, 0, 6, 536)], [], [(3, 523)], [])
set_option maxRecDepth 20000 in
theorem qi_X7_ok : qi_ctxB qi_mt qi_X7 = true := by decide +kernel
def qi_code8 : pCode := [(0, .aload_n 0, 1), (1, .invokespecial 3, 3), (4, .aload_n 0, 1), (5, .bipush (10), 2), (7, .newarray .int, 2), (9, .putfield 9, 3), (12, .return_, 1)]
set_option maxRecDepth 20000 in
theorem qi_code8_ok : px_code prog_9_method_1_code qi_code8 = true := by decide +kernel
def qi_X8 : qX := (RX7, [(9, 7, 0, 559), (15, 7, 1, 561)], [], [(3, 558)], [])
set_option maxRecDepth 20000 in
theorem qi_X8_ok : qi_ctxB qi_mt qi_X8 = true := by decide +kernel
def qi_code9 : pCode := [(0, .aload_n 0, 1), (1, .invokespecial 3, 3), (4, .aload_n 0, 1), (5, .bipush (6), 2), (7, .newarray .int, 2), (9, .putfield 9, 3), (12, .aload_n 0, 1), (13, .bipush (64), 2), (15, .newarray .int, 2), (17, .putfield 15, 3), (20, .aload_n 0, 1), (21, .bipush (6), 2), (23, .newarray .int, 2), (25, .putfield 18, 3), (28, .return_, 1)]
set_option maxRecDepth 20000 in
theorem qi_code9_ok : px_code prog_4_method_1_code qi_code9 = true := by decide +kernel
def qi_X9 : qX := (RX2, [(9, 2, 0, 574), (15, 2, 1, 575), (18, 2, 2, 576)], [], [(3, 573)], [])
set_option maxRecDepth 20000 in
theorem qi_X9_ok : qi_ctxB qi_mt qi_X9 = true := by decide +kernel
def qi_code10 : pCode := [(0, .aload_n 0, 1), (1, .invokespecial 1, 3), (4, .aload_n 0, 1), (5, .new 7, 3), (8, .dup, 1), (9, .invokespecial 9, 3), (12, .putfield 10, 3), (15, .aload_n 0, 1), (16, .new 16, 3), (19, .dup, 1), (20, .invokespecial 18, 3), (23, .putfield 19, 3), (26, .aload_n 0, 1), (27, .new 23, 3), (30, .dup, 1), (31, .invokespecial 25, 3), (34, .putfield 26, 3), (37, .aload_n 0, 1), (38, .new 30, 3), (41, .dup, 1), (42, .invokespecial 32, 3), (45, .putfield 33, 3), (48, .aload_n 0, 1), (49, .new 37, 3), (52, .dup, 1), (53, .aload_n 0, 1), (54, .getfield 19, 3), (57, .aload_n 0, 1), (58, .getfield 26, 3), (61, .aload_n 0, 1), (62, .getfield 33, 3), (65, .invokespecial 39, 3), (68, .putfield 42, 3), (71, .aload_n 0, 1), (72, .new 46, 3), (75, .dup, 1), (76, .aload_n 0, 1), (77, .getfield 19, 3), (80, .aload_n 0, 1), (81, .getfield 42, 3), (84, .invokespecial 48, 3), (87, .putfield 51, 3), (90, .aload_n 0, 1), (91, .new 46, 3), (94, .dup, 1), (95, .aload_n 0, 1), (96, .getfield 19, 3), (99, .aload_n 0, 1), (100, .getfield 42, 3), (103, .invokespecial 48, 3), (106, .putfield 55, 3), (109, .aload_n 0, 1), (110, .new 58, 3), (113, .dup, 1), (114, .invokespecial 60, 3), (117, .putfield 61, 3), (120, .aload_n 0, 1), (121, .new 65, 3), (124, .dup, 1), (125, .invokespecial 67, 3), (128, .putfield 68, 3), (131, .aload_n 0, 1), (132, .new 72, 3), (135, .dup, 1), (136, .invokespecial 74, 3), (139, .putfield 75, 3), (142, .aload_n 0, 1), (143, .new 79, 3), (146, .dup, 1), (147, .invokespecial 81, 3), (150, .putfield 82, 3), (153, .return_, 1)]
set_option maxRecDepth 20000 in
theorem qi_code10_ok : px_code prog_1_method_1_code qi_code10 = true := by decide +kernel
def qi_X10 : qX := (RX10, [(90, 8, 1, 226), (120, 3, 0, 249), (128, 3, 1, 253), (144, 3, 2, 255), (154, 3, 3, 257), (157, 3, 4, 261), (160, 3, 5, 264), (163, 3, 6, 267), (166, 3, 7, 270), (169, 3, 8, 272), (172, 3, 9, 274), (364, 3, 10, 276), (187, 3, 11, 278), (180, 5, 0, 318), (433, 5, 2, 321), (434, 5, 3, 323), (336, 1, 3, 400), (335, 1, 5, 403), (272, 1, 6, 406), (313, 1, 7, 408), (484, 1, 8, 410), (265, 1, 9, 413), (460, 1, 10, 415), (250, 1, 11, 417), (458, 1, 12, 419), (284, 1, 13, 421), (319, 9, 9, 467), (260, 4, 2, 507), (481, 0, 0, 525), (480, 0, 1, 527), (465, 0, 2, 529), (468, 0, 3, 531), (474, 0, 4, 533), (477, 0, 5, 535), (471, 0, 6, 537), (438, 7, 0, 560), (435, 7, 1, 562), (10, 10, 0, 584), (19, 10, 1, 585), (26, 10, 2, 586), (33, 10, 3, 587), (42, 10, 4, 588), (51, 10, 5, 589), (55, 10, 6, 590), (61, 10, 7, 591), (68, 10, 8, 592), (75, 10, 9, 593), (82, 10, 10, 594), (411, 10, 11, 595)], [(7, 8, 215, 216, 190), (16, 3, 242, 243, 191), (23, 5, 311, 312, 192), (30, 6, 333, 334, 193), (37, 1, 390, 391, 194), (46, 9, 451, 452, 195), (58, 4, 498, 499, 196), (65, 0, 518, 519, 197), (72, 7, 553, 554, 198), (79, 2, 568, 569, 199)], [(1, 212)], [(9, 0, 217), (18, 1, 244), (25, 2, 313), (32, 3, 335), (39, 4, 392), (48, 5, 453), (60, 6, 500), (67, 7, 520), (74, 8, 555), (81, 9, 570)])
set_option maxRecDepth 20000 in
theorem qi_X10_ok : qi_ctxB qi_mt qi_X10 = true := by decide +kernel
def qi_code11 : pCode := [(0, .aload_n 0, 1), (1, .invokespecial 3, 3), (4, .aload_n 0, 1), (5, .bipush (52), 2), (7, .newarray .int, 2), (9, .putfield 9, 3), (12, .aload_n 0, 1), (13, .bipush (20), 2), (15, .putfield 13, 3), (18, .aload_n 0, 1), (19, .iconst 5, 1), (20, .newarray .int, 2), (22, .putfield 17, 3), (25, .aload_n 0, 1), (26, .bipush (6), 2), (28, .newarray .int, 2), (30, .putfield 20, 3), (33, .aload_n 0, 1), (34, .bipush (10), 2), (36, .newarray .int, 2), (38, .putfield 23, 3), (41, .aload_n 0, 1), (42, .bipush (10), 2), (44, .newarray .int, 2), (46, .putfield 26, 3), (49, .aload_n 0, 1), (50, .bipush (10), 2), (52, .newarray .int, 2), (54, .putfield 29, 3), (57, .aload_n 0, 1), (58, .bipush (80), 2), (60, .newarray .byte, 2), (62, .putfield 32, 3), (65, .aload_n 0, 1), (66, .bipush (16), 2), (68, .newarray .int, 2), (70, .putfield 36, 3), (73, .aload_n 0, 1), (74, .iconst 5, 1), (75, .newarray .int, 2), (77, .putfield 39, 3), (80, .aload_n 0, 1), (81, .bipush (12), 2), (83, .newarray .int, 2), (85, .putfield 42, 3), (88, .aload_n 0, 1), (89, .bipush (40), 2), (91, .newarray .int, 2), (93, .putfield 45, 3), (96, .aload_n 0, 1), (97, .bipush (40), 2), (99, .newarray .byte, 2), (101, .putfield 48, 3), (104, .aload_n 0, 1), (105, .bipush (7), 2), (107, .newarray .int, 2), (109, .putfield 51, 3), (112, .aload_n 0, 1), (113, .bipush (6), 2), (115, .newarray .int, 2), (117, .putfield 54, 3), (120, .aload_n 0, 1), (121, .sipush (624), 3), (124, .newarray .int, 2), (126, .putfield 57, 3), (129, .aload_n 0, 1), (130, .bipush (52), 2), (132, .newarray .int, 2), (134, .putfield 60, 3), (137, .aload_n 0, 1), (138, .bipush (52), 2), (140, .newarray .int, 2), (142, .putfield 63, 3), (145, .aload_n 0, 1), (146, .sipush (880), 3), (149, .newarray .int, 2), (151, .putfield 66, 3), (154, .aload_n 0, 1), (155, .bipush (52), 2), (157, .newarray .int, 2), (159, .putfield 69, 3), (162, .aload_n 0, 1), (163, .bipush (10), 2), (165, .newarray .int, 2), (167, .putfield 72, 3), (170, .aload_n 0, 1), (171, .iconst 3, 1), (172, .newarray .int, 2), (174, .putfield 75, 3), (177, .aload_n 0, 1), (178, .iconst 3, 1), (179, .newarray .int, 2), (181, .putfield 78, 3), (184, .aload_n 0, 1), (185, .bipush (52), 2), (187, .newarray .int, 2), (189, .putfield 81, 3), (192, .aload_n 0, 1), (193, .bipush (6), 2), (195, .newarray .int, 2), (197, .putfield 84, 3), (200, .aload_n 0, 1), (201, .bipush (6), 2), (203, .newarray .int, 2), (205, .putfield 87, 3), (208, .aload_n 0, 1), (209, .bipush (36), 2), (211, .newarray .boolean, 2), (213, .putfield 90, 3), (216, .aload_n 0, 1), (217, .bipush (52), 2), (219, .newarray .int, 2), (221, .putfield 94, 3), (224, .aload_n 0, 1), (225, .bipush (104), 2), (227, .newarray .int, 2), (229, .putfield 97, 3), (232, .aload_n 0, 1), (233, .iconst 2, 1), (234, .newarray .boolean, 2), (236, .putfield 100, 3), (239, .aload_n 0, 1), (240, .iconst 2, 1), (241, .newarray .int, 2), (243, .putfield 103, 3), (246, .return_, 1)]
set_option maxRecDepth 20000 in
theorem qi_code11_ok : px_code prog_13_method_1_code qi_code11 = true := by decide +kernel
def qi_X11 : qX := (RX11, [(9, 11, 0, 1505), (13, 11, 1, 1506), (126, 11, 2, 1507), (17, 11, 3, 1508), (112, 11, 4, 1509), (20, 11, 5, 1510), (119, 11, 6, 1511), (23, 11, 7, 1512), (26, 11, 8, 1513), (29, 11, 9, 1514), (32, 11, 10, 1515), (129, 11, 11, 1516), (36, 11, 12, 1517), (109, 11, 13, 1518), (106, 11, 14, 1519), (132, 11, 15, 1520), (135, 11, 16, 1521), (138, 11, 17, 1522), (141, 11, 18, 1523), (144, 11, 19, 1524), (39, 11, 20, 1525), (42, 11, 21, 1526), (45, 11, 22, 1527), (183, 11, 23, 1528), (186, 11, 24, 1529), (48, 11, 25, 1530), (219, 11, 26, 1531), (215, 11, 27, 1532), (51, 11, 28, 1533), (54, 11, 29, 1534), (292, 11, 30, 1535), (271, 11, 31, 1536), (274, 11, 32, 1537), (281, 11, 33, 1538), (57, 11, 34, 1539), (177, 11, 35, 1540), (60, 11, 36, 1541), (63, 11, 37, 1542), (66, 11, 38, 1543), (361, 11, 39, 1544), (69, 11, 40, 1545), (371, 11, 41, 1546), (374, 11, 42, 1547), (377, 11, 43, 1548), (398, 11, 44, 1549), (380, 11, 45, 1550), (383, 11, 46, 1551), (386, 11, 47, 1552), (72, 11, 48, 1553), (75, 11, 49, 1554), (404, 11, 50, 1555), (78, 11, 51, 1556), (420, 11, 52, 1557), (81, 11, 53, 1558), (84, 11, 54, 1559), (87, 11, 55, 1560), (436, 11, 56, 1561), (90, 11, 57, 1562), (449, 11, 58, 1563), (94, 11, 59, 1564), (180, 11, 60, 1565), (97, 11, 61, 1566), (100, 11, 62, 1567), (103, 11, 63, 1568)], [], [(3, 1504)], [])
set_option maxRecDepth 20000 in
theorem qi_X11_ok : qi_ctxB qi_mt qi_X11 = true := by decide +kernel
def qi_C0 : qC := fun _ _ _ => none
def qi_ent0 (nL : Nat) (as : List pV) : pL := as.map some ++ List.replicate (nL - as.length) none
def qi_C1 : qC := fun cid as I => qi_if (as.all (fun v => Nat.beq (px_cat v) 1)) (match cid with
  | 0 => qi_if (Nat.ble as.length 1) (qi_run qi_X0 qi_mt qi_C0 1 80 qi_code0 400 0 (qi_ent0 1 as) [] I 0 0)
  | 1 => qi_if (Nat.ble as.length 1) (qi_run qi_X1 qi_mt qi_C0 10 88 qi_code1 400 0 (qi_ent0 1 as) [] I 0 0)
  | 2 => qi_if (Nat.ble as.length 1) (qi_run qi_X2 qi_mt qi_C0 2 10 qi_code2 400 0 (qi_ent0 1 as) [] I 0 0)
  | 3 => qi_if (Nat.ble as.length 1) (qi_run qi_X3 qi_mt qi_C0 4 125 qi_code3 400 0 (qi_ent0 1 as) [] I 0 0)
  | 4 => qi_if (Nat.ble as.length 4) (qi_run qi_X4 qi_mt qi_C0 2 12 qi_code4 400 0 (qi_ent0 4 as) [] I 0 0)
  | 5 => qi_if (Nat.ble as.length 3) (qi_run qi_X5 qi_mt qi_C0 7 40 qi_code5 400 0 (qi_ent0 3 as) [] I 0 0)
  | 6 => qi_if (Nat.ble as.length 1) (qi_run qi_X6 qi_mt qi_C0 1 780 qi_code6 400 0 (qi_ent0 1 as) [] I 0 0)
  | 7 => qi_if (Nat.ble as.length 1) (qi_run qi_X7 qi_mt qi_C0 1 6 qi_code7 400 0 (qi_ent0 1 as) [] I 0 0)
  | 8 => qi_if (Nat.ble as.length 1) (qi_run qi_X8 qi_mt qi_C0 1 10 qi_code8 400 0 (qi_ent0 1 as) [] I 0 0)
  | 9 => qi_if (Nat.ble as.length 1) (qi_run qi_X9 qi_mt qi_C0 3 76 qi_code9 400 0 (qi_ent0 1 as) [] I 0 0)
  | _ => none)
theorem qi_or0 : qi_Or 0 qi_mt qi_C0 := fun _ _ _ _ h => by cases h
theorem qi_or1 : qi_Or 1 qi_mt qi_C1 := by
  intro cid as I If e
  unfold qi_C1 at e
  have e9 := qi_if_some e
  clear e
  obtain ⟨hl, e⟩ := e9
  split at e
  · have e9 := qi_if_some e
    exact qi_con qi_qt rfl (Nat.le_of_ble_eq_true e9.1) hl (qi_run_ok qi_qt qi_or0 (X := qi_X0) qi_X0_ok qi_code0_ok 400 0 _ _ _ _ _ e9.2)
  · have e9 := qi_if_some e
    exact qi_con qi_qt rfl (Nat.le_of_ble_eq_true e9.1) hl (qi_run_ok qi_qt qi_or0 (X := qi_X1) qi_X1_ok qi_code1_ok 400 0 _ _ _ _ _ e9.2)
  · have e9 := qi_if_some e
    exact qi_con qi_qt rfl (Nat.le_of_ble_eq_true e9.1) hl (qi_run_ok qi_qt qi_or0 (X := qi_X2) qi_X2_ok qi_code2_ok 400 0 _ _ _ _ _ e9.2)
  · have e9 := qi_if_some e
    exact qi_con qi_qt rfl (Nat.le_of_ble_eq_true e9.1) hl (qi_run_ok qi_qt qi_or0 (X := qi_X3) qi_X3_ok qi_code3_ok 400 0 _ _ _ _ _ e9.2)
  · have e9 := qi_if_some e
    exact qi_con qi_qt rfl (Nat.le_of_ble_eq_true e9.1) hl (qi_run_ok qi_qt qi_or0 (X := qi_X4) qi_X4_ok qi_code4_ok 400 0 _ _ _ _ _ e9.2)
  · have e9 := qi_if_some e
    exact qi_con qi_qt rfl (Nat.le_of_ble_eq_true e9.1) hl (qi_run_ok qi_qt qi_or0 (X := qi_X5) qi_X5_ok qi_code5_ok 400 0 _ _ _ _ _ e9.2)
  · have e9 := qi_if_some e
    exact qi_con qi_qt rfl (Nat.le_of_ble_eq_true e9.1) hl (qi_run_ok qi_qt qi_or0 (X := qi_X6) qi_X6_ok qi_code6_ok 400 0 _ _ _ _ _ e9.2)
  · have e9 := qi_if_some e
    exact qi_con qi_qt rfl (Nat.le_of_ble_eq_true e9.1) hl (qi_run_ok qi_qt qi_or0 (X := qi_X7) qi_X7_ok qi_code7_ok 400 0 _ _ _ _ _ e9.2)
  · have e9 := qi_if_some e
    exact qi_con qi_qt rfl (Nat.le_of_ble_eq_true e9.1) hl (qi_run_ok qi_qt qi_or0 (X := qi_X8) qi_X8_ok qi_code8_ok 400 0 _ _ _ _ _ e9.2)
  · have e9 := qi_if_some e
    exact qi_con qi_qt rfl (Nat.le_of_ble_eq_true e9.1) hl (qi_run_ok qi_qt qi_or0 (X := qi_X9) qi_X9_ok qi_code9_ok 400 0 _ _ _ _ _ e9.2)
  · cases e
def qi_vb : Option pV → Option pV → Bool
  | none, none => true
  | some (.inl x), some (.inl y) => decide (x = y)
  | some (.inr (.inl x)), some (.inr (.inl y)) => Nat.beq x y
  | _, _ => false
theorem qi_vb_eq {a b : Option pV} (h : qi_vb a b = true) : a = b := by
  match a, b, h with
  | none, none, _ => rfl
  | some (.inl x), some (.inl y), h => rw [of_decide_eq_true h]
  | some (.inr (.inl x)), some (.inr (.inl y)), h => rw [Nat.eq_of_beq_eq_true h]
def qi_lb {α : Type} (f : α → α → Bool) : List α → List α → Bool
  | [], [] => true
  | a :: l, b :: r => f a b && qi_lb f l r
  | _, _ => false
theorem qi_lb_eq {α : Type} {f : α → α → Bool} (hf : ∀ a b, f a b = true → a = b) : ∀ {l r : List α}, qi_lb f l r = true → l = r
  | [], [], _ => rfl
  | a :: l, b :: r, h => by
    unfold qi_lb at h
    rw [Bool.and_eq_true] at h
    rw [hf a b h.1, qi_lb_eq hf h.2]
def qi_eb (a b : qE) : Bool := Nat.beq a.1 b.1 && (Nat.beq a.2.1 b.2.1 && qi_lb qi_vb a.2.2 b.2.2)
theorem qi_eb_eq (a b : qE) (h : qi_eb a b = true) : a = b := by
  unfold qi_eb at h
  rw [Bool.and_eq_true, Bool.and_eq_true] at h
  obtain ⟨a1, a2, a3⟩ := a
  obtain ⟨b1, b2, b3⟩ := b
  have h1 : a1 = b1 := Nat.eq_of_beq_eq_true h.1
  have h2 : a2 = b2 := Nat.eq_of_beq_eq_true h.2.1
  have h3 : a3 = b3 := qi_lb_eq (fun _ _ => qi_vb_eq) h.2.2
  rw [h1, h2, h3]
def qi_ob (x : Option qI) (b : qI) : Bool := match x with
  | some a => qi_lb qi_eb a b
  | none => false
theorem qi_ob_eq {x : Option qI} {b : qI} (h : qi_ob x b = true) : x = some b := by
  cases x with
  | none => cases h
  | some a => rw [qi_lb_eq qi_eb_eq h]
def qi_wu : qI := [
  (20, 12, [some (.inr (.inl 1)), some (.inr (.inl 3)), some (.inr (.inl 14)), some (.inr (.inl 17)), some (.inr (.inl 22)), some (.inr (.inl 25)), some (.inr (.inl 33)), some (.inr (.inl 41)), some (.inr (.inl 43)), some (.inr (.inl 45)), some (.inr (.inl 47)), some (.inl 0)]),
  (18, 5, [some (.inr (.inl 2)), some (.inl 0), some (.inl 0), some (.inl 0), some (.inl 0)]),
  (2, 80, []),
  (13, 14, [some (.inr (.inl 4)), some (.inr (.inl 5)), some (.inr (.inl 6)), some (.inr (.inl 7)), some (.inr (.inl 8)), some (.inr (.inl 9)), some (.inr (.inl 10)), some (.inr (.inl 11)), some (.inr (.inl 12)), some (.inr (.inl 13)), some (.inl 0), some (.inl 0), some (.inl 0), some (.inl 0)]),
  (0, 6, []),
  (0, 6, []),
  (0, 6, []),
  (0, 10, []),
  (0, 10, []),
  (0, 10, []),
  (0, 10, []),
  (0, 10, []),
  (0, 10, []),
  (0, 10, []),
  (15, 4, [some (.inr (.inl 15)), some (.inr (.inl 16)), some (.inl 0), some (.inl 20)]),
  (0, 5, []),
  (0, 5, []),
  (16, 15, [some (.inr (.inl 18)), some (.inr (.inl 19)), some (.inr (.inl 20)), some (.inr (.inl 21)), some (.inl 0), some (.inl 0), some (.inl 0), some (.inl 0), some (.inl 0), some (.inl 0), some (.inl 0), some (.inl 0), some (.inl 0), some (.inl 0), some (.inl 0)]),
  (0, 40, []),
  (0, 40, []),
  (0, 40, []),
  (3, 5, []),
  (11, 14, [some (.inr (.inl 3)), some (.inr (.inl 14)), some (.inr (.inl 17)), some (.inr (.inl 23)), some (.inr (.inl 24)), some (.inl 0), some (.inl 0), some (.inl 0), some (.inl 0), some (.inl 0), some (.inl 0), some (.inl 0), some (.inl 0), some (.inl 0)]),
  (0, 6, []),
  (0, 6, []),
  (19, 13, [some (.inr (.inl 3)), some (.inr (.inl 22)), some (.inr (.inl 26)), some (.inr (.inl 27)), some (.inr (.inl 28)), some (.inr (.inl 29)), some (.inr (.inl 30)), some (.inr (.inl 31)), some (.inr (.inl 32)), some (.inl 0), some (.inl 0), some (.inl 0), some (.inl 0)]),
  (0, 10, []),
  (0, 4, []),
  (0, 4, []),
  (0, 4, []),
  (0, 4, []),
  (0, 4, []),
  (0, 10, []),
  (19, 13, [some (.inr (.inl 3)), some (.inr (.inl 22)), some (.inr (.inl 34)), some (.inr (.inl 35)), some (.inr (.inl 36)), some (.inr (.inl 37)), some (.inr (.inl 38)), some (.inr (.inl 39)), some (.inr (.inl 40)), some (.inl 0), some (.inl 0), some (.inl 0), some (.inl 0)]),
  (0, 10, []),
  (0, 4, []),
  (0, 4, []),
  (0, 4, []),
  (0, 4, []),
  (0, 4, []),
  (0, 10, []),
  (14, 4, [some (.inr (.inl 42)), some (.inl 0), some (.inl 0), some (.inl 0)]),
  (0, 780, []),
  (10, 7, [some (.inr (.inl 44)), some (.inl 0), some (.inl 0), some (.inl 0), some (.inl 0), some (.inl 0), some (.inl 0)]),
  (0, 6, []),
  (17, 2, [some (.inr (.inl 46)), some (.inl 0)]),
  (0, 10, []),
  (12, 3, [some (.inr (.inl 48)), some (.inr (.inl 49)), some (.inr (.inl 50))]),
  (0, 6, []),
  (0, 64, []),
  (0, 6, [])]
def qi_mo : qI := [
  (21, 64, [some (.inr (.inl 52)), some (.inl 20), some (.inl 0), some (.inr (.inl 53)), some (.inl 0), some (.inr (.inl 54)), some (.inl 0), some (.inr (.inl 55)), some (.inr (.inl 56)), some (.inr (.inl 57)), some (.inr (.inl 58)), some (.inl 0), some (.inr (.inl 59)), some (.inl 0), some (.inl 0), none, some (.inl 0), some (.inl 0), some (.inl 0), some (.inl 0), some (.inr (.inl 60)), some (.inr (.inl 61)), some (.inr (.inl 62)), some (.inl 0), some (.inl 0), some (.inr (.inl 63)), some (.inl 0), some (.inl 0), some (.inr (.inl 64)), some (.inr (.inl 65)), some (.inl 0), some (.inl 0), some (.inl 0), some (.inl 0), some (.inr (.inl 66)), some (.inl 0), some (.inr (.inl 67)), some (.inr (.inl 68)), some (.inr (.inl 69)), some (.inl 0), some (.inr (.inl 70)), some (.inl 0), some (.inl 0), some (.inl 0), some (.inl 0), some (.inl 0), some (.inl 0), some (.inl 0), some (.inr (.inl 71)), some (.inr (.inl 72)), some (.inl 0), some (.inr (.inl 73)), some (.inl 0), some (.inr (.inl 74)), some (.inr (.inl 75)), some (.inr (.inl 76)), some (.inl 0), some (.inr (.inl 77)), some (.inl 0), some (.inr (.inl 78)), some (.inl 0), some (.inr (.inl 79)), some (.inr (.inl 80)), some (.inr (.inl 81))]),
  (0, 52, []),
  (0, 5, []),
  (0, 6, []),
  (0, 10, []),
  (0, 10, []),
  (0, 10, []),
  (1, 80, []),
  (0, 16, []),
  (0, 5, []),
  (0, 12, []),
  (0, 40, []),
  (1, 40, []),
  (0, 7, []),
  (0, 6, []),
  (0, 624, []),
  (0, 52, []),
  (0, 52, []),
  (0, 880, []),
  (0, 52, []),
  (0, 10, []),
  (0, 3, []),
  (0, 3, []),
  (0, 52, []),
  (0, 6, []),
  (0, 6, []),
  (3, 36, []),
  (0, 52, []),
  (0, 104, []),
  (3, 2, []),
  (0, 2, [])]
set_option maxRecDepth 100000 in
theorem qi_run_wu : qi_run qi_X10 qi_mt qi_C1 50 1361 qi_code10 400 0 (qi_ent0 1 [.inr (.inl 0)]) [] [qi_new 10] 0 0 = some qi_wu := qi_ob_eq (by decide +kernel)
set_option maxRecDepth 100000 in
theorem qi_run_mo : qi_run qi_X11 qi_mt qi_C0 30 2235 qi_code11 400 0 (qi_ent0 1 [.inr (.inl 51)]) [] (qi_wu ++ [qi_new 11]) 0 0 = some (qi_wu ++ qi_mo) := qi_ob_eq (by decide +kernel)
theorem qi_con_wu : qi_Con 2 qi_mt 10 [.inr (.inl 0)] [qi_new 10] qi_wu := qi_con qi_qt rfl (Nat.le_of_ble_eq_true rfl) rfl (qi_run_ok qi_qt qi_or1 (X := qi_X10) qi_X10_ok qi_code10_ok 400 0 _ _ _ _ _ qi_run_wu)
theorem qi_con_mo : qi_Con 1 qi_mt 11 [.inr (.inl 51)] (qi_wu ++ [qi_new 11]) (qi_wu ++ qi_mo) := qi_con qi_qt rfl (Nat.le_of_ble_eq_true rfl) rfl (qi_run_ok qi_qt qi_or0 (X := qi_X11) qi_X11_ok qi_code11_ok 400 0 _ _ _ _ _ qi_run_mo)
