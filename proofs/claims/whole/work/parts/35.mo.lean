/-! the reference: days -/
/-! WordsUnsaidModel.readAct(I)V -/
noncomputable def mo_readAct_272 (h : pH) : pR :=
  some (0, h)
noncomputable def mo_readAct_255 (x1 : Int32) (h : pH) : pR :=
  px_bind (mo_letter (px_c 113) (px_c 10) (px_c (-1)) h) fun z1 h2 =>
  px_if (px_ok 0 69 (x1 + (px_c 3))) <|
  let h3 := px_w h2 69 (x1 + (px_c 3)).toNatClampNeg z1
  mo_readAct_272 h3
noncomputable def mo_readAct_226 (x1 : Int32) (x3 : Int32) (h : pH) : pR :=
  px_if (px_ok 0 69 (x1 + (px_c 4))) <|
  let h1 := px_w h 69 (x1 + (px_c 4)).toNatClampNeg x3
  mo_readAct_272 h1
noncomputable def mo_readAct_214 (x1 : Int32) (x3 : Int32) (h : pH) : pR :=
  if x3 = 0 then
    px_bind (mo_fault (h 51 18) h) fun _ h2 =>
    mo_readAct_226 x1 x3 h2
  else
    mo_readAct_226 x1 x3 h
noncomputable def mo_readAct_162 : Nat → Int32 → Int32 → pH → pR
  | 0, _, _, _ => none
  | n + 1, x1, x3, h =>
    px_bind (mo_fine h) fun z1 h2 =>
    if z1 = 0 then
      mo_readAct_214 x1 x3 h2
    else
      px_bind (mo_here h2) fun z3 h4 =>
      px_bind (mo_in z3 (px_c 113) (px_c 122) h4) fun z5 h6 =>
      if z5 = 0 then
        mo_readAct_214 x1 x3 h6
      else
        if (px_c 6) ≤ x3 then
          mo_readAct_214 x1 x3 h6
        else
          px_bind (mo_letter (px_c 113) (px_c 10) (px_c (-1)) h6) fun z7 h8 =>
          px_if (px_ok 0 69 ((x1 + (px_c 5)) + x3)) <|
          let h9 := px_w h8 69 ((x1 + (px_c 5)) + x3).toNatClampNeg z7
          mo_readAct_162 n x1 (x3 + px_c 1) h9
noncomputable def mo_readAct_154 (x1 : Int32) (h : pH) : pR :=
  px_bind (mo_need (px_c 58) h) fun _ h2 =>
  mo_readAct_162 px_F x1 (px_c 0) h2
noncomputable def mo_readAct_139 (x1 : Int32) (s0 : Int32) (s1 : Int32) (h : pH) : pR :=
  px_if (px_ok 0 69 s1) <|
  let h1 := px_w h 69 s1.toNatClampNeg s0
  px_bind (mo_digit (px_c 0) (px_c 1) h1) fun z2 h3 =>
  px_if (px_ok 0 69 (x1 + (px_c 3))) <|
  let h4 := px_w h3 69 (x1 + (px_c 3)).toNatClampNeg z2
  mo_readAct_154 x1 h4
noncomputable def mo_readAct_54 (x1 : Int32) (x2 : Int32) (h : pH) : pR :=
  px_bind (mo_letter (px_c 97) (px_c 6) (px_c (-1)) h) fun z1 h2 =>
  px_if (px_ok 0 69 (x1 + (px_c 1))) <|
  let h3 := px_w h2 69 (x1 + (px_c 1)).toNatClampNeg z1
  if x2 = (px_c 115) then
    px_bind (mo_letter (px_c 113) (px_c 10) (px_c (-1)) h3) fun z4 h5 =>
    px_if (px_ok 0 69 (x1 + (px_c 3))) <|
    let h6 := px_w h5 69 (x1 + (px_c 3)).toNatClampNeg z4
    mo_readAct_272 h6
  else
    if x2 = (px_c 99) then
      px_bind (mo_passes (px_c 43) h3) fun z7 h8 =>
      if z7 = 0 then
        mo_readAct_139 x1 (px_c (-1)) (x1 + (px_c 2)) h8
      else
        px_if (px_ok 0 69 (x1 + (px_c 1))) <|
        px_bind (mo_letter (px_c 97) (px_c 6) (h8 69 (x1 + (px_c 1)).toNatClampNeg) h8) fun z9 h10 =>
        mo_readAct_139 x1 z9 (x1 + (px_c 2)) h10
    else
      px_bind (mo_letter (px_c 97) (px_c 6) (px_c (-1)) h3) fun z11 h12 =>
      px_if (px_ok 0 69 (x1 + (px_c 2))) <|
      let h13 := px_w h12 69 (x1 + (px_c 2)).toNatClampNeg z11
      mo_readAct_255 x1 h13
noncomputable def mo_readAct_37 (x1 : Int32) (x2 : Int32) (h : pH) : pR :=
  let h1 := px_w h 51 18 ((h 51 18) + (px_c 1))
  px_if (px_ok 0 69 x1) <|
  let h2 := px_w h1 69 x1.toNatClampNeg x2
  mo_readAct_54 x1 x2 h2
noncomputable def mo_readAct (x1 : Int32) (h : pH) : pR :=
  px_bind (mo_here h) fun z1 h2 =>
  if z1 = (px_c 99) then
    mo_readAct_37 x1 z1 h2
  else
    if z1 = (px_c 115) then
      mo_readAct_37 x1 z1 h2
    else
      if z1 = (px_c 118) then
        mo_readAct_37 x1 z1 h2
      else
        if z1 = (px_c 119) then
          mo_readAct_37 x1 z1 h2
        else
          px_bind (mo_fault (h2 51 18) h2) fun _ h4 =>
          mo_readAct_37 x1 z1 h4
def mo_readAct_code : pCode := [(0, .aload_n 0, 1), (1, .invokevirtual 151, 3), (4, .istore_n 2, 1), (5, .iload_n 2, 1), (6, .bipush (99), 2), (8, .if_icmp .eq (29), 3), (11, .iload_n 2, 1), (12, .bipush (115), 2), (14, .if_icmp .eq (23), 3), (17, .iload_n 2, 1), (18, .bipush (118), 2), (20, .if_icmp .eq (17), 3), (23, .iload_n 2, 1), (24, .bipush (119), 2), (26, .if_icmp .eq (11), 3), (29, .aload_n 0, 1), (30, .aload_n 0, 1), (31, .getfield 141, 3), (34, .invokevirtual 159, 3), (37, .aload_n 0, 1), (38, .dup, 1), (39, .getfield 141, 3), (42, .iconst 1, 1), (43, .iadd, 1), (44, .putfield 141, 3), (47, .aload_n 0, 1), (48, .getfield 66, 3), (51, .iload_n 1, 1), (52, .iload_n 2, 1), (53, .iastore, 1), (54, .aload_n 0, 1), (55, .getfield 66, 3), (58, .iload_n 1, 1), (59, .iconst 1, 1), (60, .iadd, 1), (61, .aload_n 0, 1), (62, .bipush (97), 2), (64, .bipush (6), 2), (66, .iconst (-1), 1), (67, .invokevirtual 189, 3), (70, .iastore, 1), (71, .iload_n 2, 1), (72, .bipush (115), 2), (74, .if_icmp .ne (23), 3), (77, .aload_n 0, 1), (78, .getfield 66, 3), (81, .iload_n 1, 1), (82, .iconst 3, 1), (83, .iadd, 1), (84, .aload_n 0, 1), (85, .bipush (113), 2), (87, .bipush (10), 2), (89, .iconst (-1), 1), (90, .invokevirtual 189, 3), (93, .iastore, 1), (94, .goto (178), 3), (97, .iload_n 2, 1), (98, .bipush (99), 2), (100, .if_icmp .ne (138), 3), (103, .aload_n 0, 1), (104, .getfield 66, 3), (107, .iload_n 1, 1), (108, .iconst 2, 1), (109, .iadd, 1), (110, .aload_n 0, 1), (111, .bipush (43), 2), (113, .invokevirtual 155, 3), (116, .ifCond .eq (22), 3), (119, .aload_n 0, 1), (120, .bipush (97), 2), (122, .bipush (6), 2), (124, .aload_n 0, 1), (125, .getfield 66, 3), (128, .iload_n 1, 1), (129, .iconst 1, 1), (130, .iadd, 1), (131, .iaload, 1), (132, .invokevirtual 189, 3), (135, .goto (4), 3), (138, .iconst (-1), 1), (139, .iastore, 1), (140, .aload_n 0, 1), (141, .getfield 66, 3), (144, .iload_n 1, 1), (145, .iconst 3, 1), (146, .iadd, 1), (147, .aload_n 0, 1), (148, .iconst 0, 1), (149, .iconst 1, 1), (150, .invokevirtual 163, 3), (153, .iastore, 1), (154, .aload_n 0, 1), (155, .bipush (58), 2), (157, .invokevirtual 193, 3), (160, .iconst 0, 1), (161, .istore_n 3, 1), (162, .aload_n 0, 1), (163, .invokevirtual 147, 3), (166, .ifCond .eq (48), 3), (169, .aload_n 0, 1), (170, .invokevirtual 151, 3), (173, .bipush (113), 2), (175, .bipush (122), 2), (177, .invokestatic 115, 3), (180, .ifCond .eq (34), 3), (183, .iload_n 3, 1), (184, .bipush (6), 2), (186, .if_icmp .ge (28), 3), (189, .aload_n 0, 1), (190, .getfield 66, 3), (193, .iload_n 1, 1), (194, .iconst 5, 1), (195, .iadd, 1), (196, .iload_n 3, 1), (197, .iadd, 1), (198, .aload_n 0, 1), (199, .bipush (113), 2), (201, .bipush (10), 2), (203, .iconst (-1), 1), (204, .invokevirtual 189, 3), (207, .iastore, 1), (208, .iinc 3 (1), 3), (211, .goto (-49), 3), (214, .iload_n 3, 1), (215, .ifCond .ne (11), 3), (218, .aload_n 0, 1), (219, .aload_n 0, 1), (220, .getfield 141, 3), (223, .invokevirtual 159, 3), (226, .aload_n 0, 1), (227, .getfield 66, 3), (230, .iload_n 1, 1), (231, .iconst 4, 1), (232, .iadd, 1), (233, .iload_n 3, 1), (234, .iastore, 1), (235, .goto (37), 3), (238, .aload_n 0, 1), (239, .getfield 66, 3), (242, .iload_n 1, 1), (243, .iconst 2, 1), (244, .iadd, 1), (245, .aload_n 0, 1), (246, .bipush (97), 2), (248, .bipush (6), 2), (250, .iconst (-1), 1), (251, .invokevirtual 189, 3), (254, .iastore, 1), (255, .aload_n 0, 1), (256, .getfield 66, 3), (259, .iload_n 1, 1), (260, .iconst 3, 1), (261, .iadd, 1), (262, .aload_n 0, 1), (263, .bipush (113), 2), (265, .bipush (10), 2), (267, .iconst (-1), 1), (268, .invokevirtual 189, 3), (271, .iastore, 1), (272, .return_, 1)]
set_option maxRecDepth 200000 in
theorem mo_readAct_code_ok : px_code prog_13_method_70_code mo_readAct_code = true := by decide +kernel
noncomputable def mo_readAct_orc : pC := px_orc [(196, fun a h => match a with
    | [.inr (.inl 51), .inl v1, .inl v2, .inl v3] => mo_letter v1 v2 v3 h
    | _ => none), (190, fun a h => match a with
    | [.inr (.inl 51), .inl v1] => mo_fault v1 h
    | _ => none), (189, fun a h => match a with
    | [.inr (.inl 51)] => mo_fine h
    | _ => none), (188, fun a h => match a with
    | [.inr (.inl 51)] => mo_here h
    | _ => none), (175, fun a h => match a with
    | [.inl v0, .inl v1, .inl v2] => mo_in v0 v1 v2 h
    | _ => none), (192, fun a h => match a with
    | [.inr (.inl 51), .inl v1] => mo_need v1 h
    | _ => none), (193, fun a h => match a with
    | [.inr (.inl 51), .inl v1, .inl v2] => mo_digit v1 v2 h
    | _ => none), (191, fun a h => match a with
    | [.inr (.inl 51), .inl v1] => mo_passes v1 h
    | _ => none)]
theorem mo_readAct_orc_ok {d : Nat} : px_Or (d + 3) (mo_readAct_orc) := px_orc_ok (by
  refine px_o1 (fun a h q e => by
    dsimp only at e
    split at e
    · exact mo_letter_ok (d := d + 0) e
    · cases e) ?_
  refine px_o1 (fun a h q e => by
    dsimp only at e
    split at e
    · exact mo_fault_ok (d := d + 1) e
    · cases e) ?_
  refine px_o1 (fun a h q e => by
    dsimp only at e
    split at e
    · exact mo_fine_ok (d := d + 2) e
    · cases e) ?_
  refine px_o1 (fun a h q e => by
    dsimp only at e
    split at e
    · exact mo_here_ok (d := d + 2) e
    · cases e) ?_
  refine px_o1 (fun a h q e => by
    dsimp only at e
    split at e
    · exact mo_in_ok (d := d + 2) e
    · cases e) ?_
  refine px_o1 (fun a h q e => by
    dsimp only at e
    split at e
    · exact mo_need_ok (d := d + 0) e
    · cases e) ?_
  refine px_o1 (fun a h q e => by
    dsimp only at e
    split at e
    · exact mo_digit_ok (d := d + 0) e
    · cases e) ?_
  refine px_o1 (fun a h q e => by
    dsimp only at e
    split at e
    · exact mo_passes_ok (d := d + 1) e
    · cases e) ?_
  exact px_o0)
set_option maxRecDepth 200000 in
theorem mo_readAct_272_ok {d : Nat} : ∀ (h : pH) (q : Int32 × pH), mo_readAct_272 h = some q → px_G (d + 3 + 1) (pX_RX11, prog_13_method_70_code, 4, none) 272 [none, none, none, none] [] h q := by
  intro h q e
  exact px_blk_ok (d := d + 3) (M := (pX_RX11, prog_13_method_70_code, 4, none)) (C := mo_readAct_orc) (code := mo_readAct_code) (ld := []) (kl := []) (mo_readAct_orc_ok) pX_ok_RX11 mo_readAct_code_ok (px_k0) 165 272 _ _ h q e
set_option maxRecDepth 200000 in
theorem mo_readAct_255_ok {d : Nat} : ∀ (x1 : Int32) (h : pH) (q : Int32 × pH), mo_readAct_255 x1 h = some q → px_G (d + 3 + 1) (pX_RX11, prog_13_method_70_code, 4, none) 255 [some (.inr (.inl 51)), some (.inl x1), none, none] [] h q := by
  intro x1 h q e
  exact px_blk_ok (d := d + 3) (M := (pX_RX11, prog_13_method_70_code, 4, none)) (C := mo_readAct_orc) (code := mo_readAct_code) (ld := [272]) (kl := [(272, fun ls st h => px_if (px_fit [0, 0, 0, 0] ls && px_fits [] st) (mo_readAct_272 h))]) (mo_readAct_orc_ok) pX_ok_RX11 mo_readAct_code_ok (px_k1 (px_ko (ts := [0, 0, 0, 0]) (ss := []) fun ls st h q e => mo_readAct_272_ok _ _ e) px_k0) 165 255 _ _ h q e
set_option maxRecDepth 200000 in
theorem mo_readAct_226_ok {d : Nat} : ∀ (x1 : Int32) (x3 : Int32) (h : pH) (q : Int32 × pH), mo_readAct_226 x1 x3 h = some q → px_G (d + 3 + 1) (pX_RX11, prog_13_method_70_code, 4, none) 226 [some (.inr (.inl 51)), some (.inl x1), none, some (.inl x3)] [] h q := by
  intro x1 x3 h q e
  exact px_blk_ok (d := d + 3) (M := (pX_RX11, prog_13_method_70_code, 4, none)) (C := mo_readAct_orc) (code := mo_readAct_code) (ld := [272]) (kl := [(272, fun ls st h => px_if (px_fit [0, 0, 0, 0] ls && px_fits [] st) (mo_readAct_272 h))]) (mo_readAct_orc_ok) pX_ok_RX11 mo_readAct_code_ok (px_k1 (px_ko (ts := [0, 0, 0, 0]) (ss := []) fun ls st h q e => mo_readAct_272_ok _ _ e) px_k0) 165 226 _ _ h q e
set_option maxRecDepth 200000 in
theorem mo_readAct_214_ok {d : Nat} : ∀ (x1 : Int32) (x3 : Int32) (h : pH) (q : Int32 × pH), mo_readAct_214 x1 x3 h = some q → px_G (d + 3 + 1) (pX_RX11, prog_13_method_70_code, 4, none) 214 [some (.inr (.inl 51)), some (.inl x1), none, some (.inl x3)] [] h q := by
  intro x1 x3 h q e
  exact px_blk_ok (d := d + 3) (M := (pX_RX11, prog_13_method_70_code, 4, none)) (C := mo_readAct_orc) (code := mo_readAct_code) (ld := [226]) (kl := [(226, fun ls st h => px_if (px_fit [61, 1, 0, 1] ls && px_fits [] st) (mo_readAct_226 (px_gi ls 1) (px_gi ls 3) h))]) (mo_readAct_orc_ok) pX_ok_RX11 mo_readAct_code_ok (px_k1 (px_ko (ts := [61, 1, 0, 1]) (ss := []) fun ls st h q e => mo_readAct_226_ok _ _ _ _ e) px_k0) 165 214 _ _ h q e
set_option maxRecDepth 200000 in
theorem mo_readAct_162_ok {d : Nat} : ∀ (n : Nat) (x1 : Int32) (x3 : Int32) (h : pH) (q : Int32 × pH), mo_readAct_162 n x1 x3 h = some q → px_G (d + 3 + 1) (pX_RX11, prog_13_method_70_code, 4, none) 162 [some (.inr (.inl 51)), some (.inl x1), none, some (.inl x3)] [] h q := by
  intro n
  induction n with
  | zero =>
    intro x1 x3 h q e
    cases e
  | succ n ih =>
    intro x1 x3 h q e
    exact px_blk_ok (d := d + 3) (M := (pX_RX11, prog_13_method_70_code, 4, none)) (C := mo_readAct_orc) (code := mo_readAct_code) (ld := [162, 214]) (kl := [(162, fun ls st h => px_if (px_fit [61, 1, 0, 1] ls && px_fits [] st) (mo_readAct_162 n (px_gi ls 1) (px_gi ls 3) h)), (214, fun ls st h => px_if (px_fit [61, 1, 0, 1] ls && px_fits [] st) (mo_readAct_214 (px_gi ls 1) (px_gi ls 3) h))]) (mo_readAct_orc_ok) pX_ok_RX11 mo_readAct_code_ok (px_k1 (px_ko (ts := [61, 1, 0, 1]) (ss := []) fun ls st h q e => ih _ _ _ _ e) (px_k1 (px_ko (ts := [61, 1, 0, 1]) (ss := []) fun ls st h q e => mo_readAct_214_ok _ _ _ _ e) px_k0)) 165 162 _ _ h q e
set_option maxRecDepth 200000 in
theorem mo_readAct_154_ok {d : Nat} : ∀ (x1 : Int32) (h : pH) (q : Int32 × pH), mo_readAct_154 x1 h = some q → px_G (d + 3 + 1) (pX_RX11, prog_13_method_70_code, 4, none) 154 [some (.inr (.inl 51)), some (.inl x1), none, none] [] h q := by
  intro x1 h q e
  exact px_blk_ok (d := d + 3) (M := (pX_RX11, prog_13_method_70_code, 4, none)) (C := mo_readAct_orc) (code := mo_readAct_code) (ld := [162]) (kl := [(162, fun ls st h => px_if (px_fit [61, 1, 0, 1] ls && px_fits [] st) (mo_readAct_162 px_F (px_gi ls 1) (px_gi ls 3) h))]) (mo_readAct_orc_ok) pX_ok_RX11 mo_readAct_code_ok (px_k1 (px_ko (ts := [61, 1, 0, 1]) (ss := []) fun ls st h q e => mo_readAct_162_ok _ _ _ _ _ e) px_k0) 165 154 _ _ h q e
set_option maxRecDepth 200000 in
theorem mo_readAct_139_ok {d : Nat} : ∀ (x1 : Int32) (s0 : Int32) (s1 : Int32) (h : pH) (q : Int32 × pH), mo_readAct_139 x1 s0 s1 h = some q → px_G (d + 3 + 1) (pX_RX11, prog_13_method_70_code, 4, none) 139 [some (.inr (.inl 51)), some (.inl x1), none, none] [.inl s0, .inl s1, .inr (.inl 69)] h q := by
  intro x1 s0 s1 h q e
  exact px_blk_ok (d := d + 3) (M := (pX_RX11, prog_13_method_70_code, 4, none)) (C := mo_readAct_orc) (code := mo_readAct_code) (ld := [154]) (kl := [(154, fun ls st h => px_if (px_fit [61, 1, 0, 0] ls && px_fits [] st) (mo_readAct_154 (px_gi ls 1) h))]) (mo_readAct_orc_ok) pX_ok_RX11 mo_readAct_code_ok (px_k1 (px_ko (ts := [61, 1, 0, 0]) (ss := []) fun ls st h q e => mo_readAct_154_ok _ _ _ e) px_k0) 165 139 _ _ h q e
set_option maxRecDepth 200000 in
theorem mo_readAct_54_ok {d : Nat} : ∀ (x1 : Int32) (x2 : Int32) (h : pH) (q : Int32 × pH), mo_readAct_54 x1 x2 h = some q → px_G (d + 3 + 1) (pX_RX11, prog_13_method_70_code, 4, none) 54 [some (.inr (.inl 51)), some (.inl x1), some (.inl x2), none] [] h q := by
  intro x1 x2 h q e
  exact px_blk_ok (d := d + 3) (M := (pX_RX11, prog_13_method_70_code, 4, none)) (C := mo_readAct_orc) (code := mo_readAct_code) (ld := [139, 255, 272]) (kl := [(139, fun ls st h => px_if (px_fit [61, 1, 0, 0] ls && px_fits [1, 1, 79] st) (mo_readAct_139 (px_gi ls 1) (px_si st 0) (px_si st 1) h)), (255, fun ls st h => px_if (px_fit [61, 1, 0, 0] ls && px_fits [] st) (mo_readAct_255 (px_gi ls 1) h)), (272, fun ls st h => px_if (px_fit [0, 0, 0, 0] ls && px_fits [] st) (mo_readAct_272 h))]) (mo_readAct_orc_ok) pX_ok_RX11 mo_readAct_code_ok (px_k1 (px_ko (ts := [61, 1, 0, 0]) (ss := [1, 1, 79]) fun ls st h q e => mo_readAct_139_ok _ _ _ _ _ e) (px_k1 (px_ko (ts := [61, 1, 0, 0]) (ss := []) fun ls st h q e => mo_readAct_255_ok _ _ _ e) (px_k1 (px_ko (ts := [0, 0, 0, 0]) (ss := []) fun ls st h q e => mo_readAct_272_ok _ _ e) px_k0))) 165 54 _ _ h q e
set_option maxRecDepth 200000 in
theorem mo_readAct_37_ok {d : Nat} : ∀ (x1 : Int32) (x2 : Int32) (h : pH) (q : Int32 × pH), mo_readAct_37 x1 x2 h = some q → px_G (d + 3 + 1) (pX_RX11, prog_13_method_70_code, 4, none) 37 [some (.inr (.inl 51)), some (.inl x1), some (.inl x2), none] [] h q := by
  intro x1 x2 h q e
  exact px_blk_ok (d := d + 3) (M := (pX_RX11, prog_13_method_70_code, 4, none)) (C := mo_readAct_orc) (code := mo_readAct_code) (ld := [54]) (kl := [(54, fun ls st h => px_if (px_fit [61, 1, 1, 0] ls && px_fits [] st) (mo_readAct_54 (px_gi ls 1) (px_gi ls 2) h))]) (mo_readAct_orc_ok) pX_ok_RX11 mo_readAct_code_ok (px_k1 (px_ko (ts := [61, 1, 1, 0]) (ss := []) fun ls st h q e => mo_readAct_54_ok _ _ _ _ e) px_k0) 165 37 _ _ h q e
set_option maxRecDepth 200000 in
theorem mo_readAct_ok {d : Nat} {x1 : Int32} {h : pH} {q : Int32 × pH} (e : mo_readAct x1 h = some q) : px_Con (d + 4) 242 [.inr (.inl 51), .inl x1] h q :=
  px_con (X := pX_RX11) (b := prog_13_method_70_code) (nL := 4) (rt := none) rfl rfl (Nat.le_of_ble_eq_true rfl) rfl (px_blk_ok (d := d + 3) (M := (pX_RX11, prog_13_method_70_code, 4, none)) (C := mo_readAct_orc) (code := mo_readAct_code) (ld := [37]) (kl := [(37, fun ls st h => px_if (px_fit [61, 1, 1, 0] ls && px_fits [] st) (mo_readAct_37 (px_gi ls 1) (px_gi ls 2) h))]) (mo_readAct_orc_ok) pX_ok_RX11 mo_readAct_code_ok (px_k1 (px_ko (ts := [61, 1, 1, 0]) (ss := []) fun ls st h q e => mo_readAct_37_ok _ _ _ _ e) px_k0) 165 0 _ _ _ q e)
/-! WordsUnsaidModel.actCross(IIII)Z -/
noncomputable def mo_actCross_156 (h : pH) : pR :=
  px_bz (px_c 1) h
noncomputable def mo_actCross_94 (r25 : Int32 → Int32 → Int32 → Int32 → Int32 → pH → pR) (x1 : Int32) (x2 : Int32) (x4 : Int32) (x5 : Int32) (x6 : Int32) (h : pH) : pR :=
  r25 x1 x2 x4 x5 (x6 + px_c 1) h
noncomputable def mo_actCross_25 : Nat → Int32 → Int32 → Int32 → Int32 → Int32 → pH → pR
  | 0, _, _, _, _, _, _ => none
  | n + 1, x1, x2, x4, x5, x6, h =>
    px_if (px_ok 0 69 (x1 + (px_c 4))) <|
    if (h 69 (x1 + (px_c 4)).toNatClampNeg) ≤ x6 then
      px_bind (mo_wordsIn 52 h) fun z1 h2 =>
      px_if (px_ok 0 52 x2) <|
      px_bind (mo_distance (h2 52 x2.toNatClampNeg) x4 h2) fun z3 h4 =>
      if z3 ≤ z1 then
        px_if (px_ok 0 52 x2) <|
        px_bind (mo_goes 52 x5 (h4 52 x2.toNatClampNeg) x4 h4) fun z5 h6 =>
        if z5 = 0 then
          let h7 := px_w h6 51 39 ((h6 51 39) + (px_c 1))
          mo_actCross_156 h7
        else
          mo_actCross_156 h6
      else
        px_bz (px_c 0) h4
    else
      px_if (px_ok 0 69 ((x1 + (px_c 5)) + x6)) <|
      px_bind (mo_canLine 52 (h 69 ((x1 + (px_c 5)) + x6).toNatClampNeg) x5 h) fun z8 h9 =>
      if z8 = 0 then
        px_bz (px_c 0) h9
      else
        px_if (px_ok 0 69 ((x1 + (px_c 5)) + x6)) <|
        px_if (px_ok 0 65 (h9 51 30)) <|
        let h10 := px_w h9 65 (h9 51 30).toNatClampNeg (h9 69 ((x1 + (px_c 5)) + x6).toNatClampNeg)
        let h11 := px_w h10 51 30 ((h10 51 30) + (px_c 1))
        mo_actCross_94 (mo_actCross_25 n) x1 x2 x4 x5 x6 h11
noncomputable def mo_actCross (x1 : Int32) (x2 : Int32) (x3 : Int32) (x4 : Int32) (h : pH) : pR :=
  px_bind (mo_aboardOf x2 x3 x4 h) fun z1 h2 =>
  if z1 = 0 then
    px_bz (px_c 0) h2
  else
    let h3 := px_w h2 51 30 (px_c 0)
    mo_actCross_25 px_F x1 x2 x4 z1 (px_c 0) h3
def mo_actCross_code : pCode := [(0, .aload_n 0, 1), (1, .iload_n 2, 1), (2, .iload_n 3, 1), (3, .iload 4, 2), (5, .invokevirtual 315, 3), (8, .istore 5, 2), (10, .iload 5, 2), (12, .ifCond .ne (5), 3), (15, .iconst 0, 1), (16, .ireturn, 1), (17, .aload_n 0, 1), (18, .iconst 0, 1), (19, .putfield 292, 3), (22, .iconst 0, 1), (23, .istore 6, 2), (25, .iload 6, 2), (27, .aload_n 0, 1), (28, .getfield 66, 3), (31, .iload_n 1, 1), (32, .iconst 4, 1), (33, .iadd, 1), (34, .iaload, 1), (35, .if_icmp .ge (65), 3), (38, .aload_n 0, 1), (39, .aload_n 0, 1), (40, .getfield 9, 3), (43, .aload_n 0, 1), (44, .getfield 66, 3), (47, .iload_n 1, 1), (48, .iconst 5, 1), (49, .iadd, 1), (50, .iload 6, 2), (52, .iadd, 1), (53, .iaload, 1), (54, .iload 5, 2), (56, .invokevirtual 305, 3), (59, .ifCond .ne (5), 3), (62, .iconst 0, 1), (63, .ireturn, 1), (64, .aload_n 0, 1), (65, .getfield 54, 3), (68, .aload_n 0, 1), (69, .getfield 292, 3), (72, .aload_n 0, 1), (73, .getfield 66, 3), (76, .iload_n 1, 1), (77, .iconst 5, 1), (78, .iadd, 1), (79, .iload 6, 2), (81, .iadd, 1), (82, .iaload, 1), (83, .iastore, 1), (84, .aload_n 0, 1), (85, .dup, 1), (86, .getfield 292, 3), (89, .iconst 1, 1), (90, .iadd, 1), (91, .putfield 292, 3), (94, .iinc 6 (1), 3), (97, .goto (-72), 3), (100, .aload_n 0, 1), (101, .aload_n 0, 1), (102, .getfield 9, 3), (105, .invokevirtual 309, 3), (108, .aload_n 0, 1), (109, .aload_n 0, 1), (110, .getfield 9, 3), (113, .iload_n 2, 1), (114, .iaload, 1), (115, .iload 4, 2), (117, .invokevirtual 268, 3), (120, .if_icmp .ge (5), 3), (123, .iconst 0, 1), (124, .ireturn, 1), (125, .aload_n 0, 1), (126, .aload_n 0, 1), (127, .getfield 9, 3), (130, .iload 5, 2), (132, .aload_n 0, 1), (133, .getfield 9, 3), (136, .iload_n 2, 1), (137, .iaload, 1), (138, .iload 4, 2), (140, .invokevirtual 326, 3), (143, .ifCond .ne (13), 3), (146, .aload_n 0, 1), (147, .dup, 1), (148, .getfield 361, 3), (151, .iconst 1, 1), (152, .iadd, 1), (153, .putfield 361, 3), (156, .iconst 1, 1), (157, .ireturn, 1)]
set_option maxRecDepth 200000 in
theorem mo_actCross_code_ok : px_code prog_13_method_72_code mo_actCross_code = true := by decide +kernel
noncomputable def mo_actCross_orc : pC := px_orc [(222, fun a h => match a with
    | [.inr (.inl 51), .inr (.inl v1)] => mo_wordsIn v1 h
    | _ => none), (218, fun a h => match a with
    | [.inr (.inl 51), .inl v1, .inl v2] => mo_distance v1 v2 h
    | _ => none), (219, fun a h => match a with
    | [.inr (.inl 51), .inr (.inl v1), .inl v2, .inl v3, .inl v4] => mo_goes v1 v2 v3 v4 h
    | _ => none), (226, fun a h => match a with
    | [.inr (.inl 51), .inr (.inl v1), .inl v2, .inl v3] => mo_canLine v1 v2 v3 h
    | _ => none), (225, fun a h => match a with
    | [.inr (.inl 51), .inl v1, .inl v2, .inl v3] => mo_aboardOf v1 v2 v3 h
    | _ => none)]
theorem mo_actCross_orc_ok {d : Nat} : px_Or (d + 106) (mo_actCross_orc) := px_orc_ok (by
  refine px_o1 (fun a h q e => by
    dsimp only at e
    split at e
    · exact mo_wordsIn_ok (d := d + 105) e
    · cases e) ?_
  refine px_o1 (fun a h q e => by
    dsimp only at e
    split at e
    · exact mo_distance_ok (d := d + 104) e
    · cases e) ?_
  refine px_o1 (fun a h q e => by
    dsimp only at e
    split at e
    · exact mo_goes_ok (d := d + 0) e
    · cases e) ?_
  refine px_o1 (fun a h q e => by
    dsimp only at e
    split at e
    · exact mo_canLine_ok (d := d + 103) e
    · cases e) ?_
  refine px_o1 (fun a h q e => by
    dsimp only at e
    split at e
    · exact mo_aboardOf_ok (d := d + 102) e
    · cases e) ?_
  exact px_o0)
set_option maxRecDepth 200000 in
theorem mo_actCross_156_ok {d : Nat} : ∀ (h : pH) (q : Int32 × pH), mo_actCross_156 h = some q → px_G (d + 106 + 1) (pX_RX11, prog_13_method_72_code, 7, (some .boolean)) 156 [none, none, none, none, none, none, none] [] h q := by
  intro h q e
  exact px_blk_ok (d := d + 106) (M := (pX_RX11, prog_13_method_72_code, 7, (some .boolean))) (C := mo_actCross_orc) (code := mo_actCross_code) (ld := []) (kl := []) (mo_actCross_orc_ok) pX_ok_RX11 mo_actCross_code_ok (px_k0) 98 156 _ _ h q e
set_option maxRecDepth 200000 in
theorem mo_actCross_94_ok {d : Nat} {r25 : Int32 → Int32 → Int32 → Int32 → Int32 → pH → pR} (hr25 : ∀ (x1 : Int32) (x2 : Int32) (x4 : Int32) (x5 : Int32) (x6 : Int32) (h : pH) (q : Int32 × pH), r25 x1 x2 x4 x5 x6 h = some q → px_G (d + 106 + 1) (pX_RX11, prog_13_method_72_code, 7, (some .boolean)) 25 [some (.inr (.inl 51)), some (.inl x1), some (.inl x2), none, some (.inl x4), some (.inl x5), some (.inl x6)] [] h q) : ∀ (x1 : Int32) (x2 : Int32) (x4 : Int32) (x5 : Int32) (x6 : Int32) (h : pH) (q : Int32 × pH), mo_actCross_94 r25 x1 x2 x4 x5 x6 h = some q → px_G (d + 106 + 1) (pX_RX11, prog_13_method_72_code, 7, (some .boolean)) 94 [some (.inr (.inl 51)), some (.inl x1), some (.inl x2), none, some (.inl x4), some (.inl x5), some (.inl x6)] [] h q := by
  intro x1 x2 x4 x5 x6 h q e
  exact px_blk_ok (d := d + 106) (M := (pX_RX11, prog_13_method_72_code, 7, (some .boolean))) (C := mo_actCross_orc) (code := mo_actCross_code) (ld := [25]) (kl := [(25, fun ls st h => px_if (px_fit [61, 1, 1, 0, 1, 1, 1] ls && px_fits [] st) (r25 (px_gi ls 1) (px_gi ls 2) (px_gi ls 4) (px_gi ls 5) (px_gi ls 6) h))]) (mo_actCross_orc_ok) pX_ok_RX11 mo_actCross_code_ok (px_k1 (px_ko (ts := [61, 1, 1, 0, 1, 1, 1]) (ss := []) fun ls st h q e => hr25 _ _ _ _ _ _ _ e) px_k0) 98 94 _ _ h q e
set_option maxRecDepth 200000 in
theorem mo_actCross_25_ok {d : Nat} : ∀ (n : Nat) (x1 : Int32) (x2 : Int32) (x4 : Int32) (x5 : Int32) (x6 : Int32) (h : pH) (q : Int32 × pH), mo_actCross_25 n x1 x2 x4 x5 x6 h = some q → px_G (d + 106 + 1) (pX_RX11, prog_13_method_72_code, 7, (some .boolean)) 25 [some (.inr (.inl 51)), some (.inl x1), some (.inl x2), none, some (.inl x4), some (.inl x5), some (.inl x6)] [] h q := by
  intro n
  induction n with
  | zero =>
    intro x1 x2 x4 x5 x6 h q e
    cases e
  | succ n ih =>
    intro x1 x2 x4 x5 x6 h q e
    exact px_blk_ok (d := d + 106) (M := (pX_RX11, prog_13_method_72_code, 7, (some .boolean))) (C := mo_actCross_orc) (code := mo_actCross_code) (ld := [94, 156]) (kl := [(94, fun ls st h => px_if (px_fit [61, 1, 1, 0, 1, 1, 1] ls && px_fits [] st) (mo_actCross_94 (mo_actCross_25 n) (px_gi ls 1) (px_gi ls 2) (px_gi ls 4) (px_gi ls 5) (px_gi ls 6) h)), (156, fun ls st h => px_if (px_fit [0, 0, 0, 0, 0, 0, 0] ls && px_fits [] st) (mo_actCross_156 h))]) (mo_actCross_orc_ok) pX_ok_RX11 mo_actCross_code_ok (px_k1 (px_ko (ts := [61, 1, 1, 0, 1, 1, 1]) (ss := []) fun ls st h q e => mo_actCross_94_ok ih _ _ _ _ _ _ _ e) (px_k1 (px_ko (ts := [0, 0, 0, 0, 0, 0, 0]) (ss := []) fun ls st h q e => mo_actCross_156_ok _ _ e) px_k0)) 98 25 _ _ h q e
set_option maxRecDepth 200000 in
theorem mo_actCross_ok {d : Nat} {x1 : Int32} {x2 : Int32} {x3 : Int32} {x4 : Int32} {h : pH} {q : Int32 × pH} (e : mo_actCross x1 x2 x3 x4 h = some q) : px_Con (d + 107) 244 [.inr (.inl 51), .inl x1, .inl x2, .inl x3, .inl x4] h q :=
  px_con (X := pX_RX11) (b := prog_13_method_72_code) (nL := 7) (rt := (some .boolean)) rfl rfl (Nat.le_of_ble_eq_true rfl) rfl (px_blk_ok (d := d + 106) (M := (pX_RX11, prog_13_method_72_code, 7, (some .boolean))) (C := mo_actCross_orc) (code := mo_actCross_code) (ld := [25]) (kl := [(25, fun ls st h => px_if (px_fit [61, 1, 1, 0, 1, 1, 1] ls && px_fits [] st) (mo_actCross_25 px_F (px_gi ls 1) (px_gi ls 2) (px_gi ls 4) (px_gi ls 5) (px_gi ls 6) h))]) (mo_actCross_orc_ok) pX_ok_RX11 mo_actCross_code_ok (px_k1 (px_ko (ts := [61, 1, 1, 0, 1, 1, 1]) (ss := []) fun ls st h q e => mo_actCross_25_ok _ _ _ _ _ _ _ _ e) px_k0) 98 0 _ _ _ q e)
/-! WordsUnsaidModel.act(I)Z -/
noncomputable def mo_act (x1 : Int32) (h : pH) : pR :=
  px_if (px_ok 0 69 (x1 + (px_c 1))) <|
  let y2_1 := h 69 (x1 + (px_c 1)).toNatClampNeg
  px_if (px_ok 0 69 (x1 + (px_c 2))) <|
  let y3_2 := h 69 (x1 + (px_c 2)).toNatClampNeg
  px_if (px_ok 0 69 (x1 + (px_c 3))) <|
  let y4_3 := h 69 (x1 + (px_c 3)).toNatClampNeg
  px_if (px_ok 0 69 x1) <|
  if (h 69 x1.toNatClampNeg) = px_c 99 then
    px_bind (mo_actCross x1 y2_1 y3_2 y4_3 h) fun z4 h5 =>
    px_bz z4 h5
  else
  if (h 69 x1.toNatClampNeg) = px_c 115 then
    px_bind (mo_refusesSay y2_1 y4_3 h) fun z6 h7 =>
    if 0 ≤ z6 then
      px_bind (mo_goSay y2_1 y4_3 h7) fun z8 h9 =>
      px_bz (px_c 1) h9
    else
      px_bz (px_c 0) h7
  else
  if (h 69 x1.toNatClampNeg) = px_c 118 then
    px_bind (mo_refusesSell y2_1 y3_2 y4_3 h) fun z10 h11 =>
    if 0 ≤ z10 then
      px_bind (mo_goSell y2_1 y3_2 y4_3 h11) fun z12 h13 =>
      px_bz (px_c 1) h13
    else
      px_bz (px_c 0) h11
  else
    px_bind (mo_refusesWhisper y2_1 y3_2 y4_3 h) fun z14 h15 =>
    if 0 ≤ z14 then
      px_bind (mo_goWhisper y3_2 y4_3 h15) fun z16 h17 =>
      px_bz (px_c 1) h17
    else
      px_bz (px_c 0) h15
def mo_act_code : pCode := [(0, .aload_n 0, 1), (1, .getfield 66, 3), (4, .iload_n 1, 1), (5, .iconst 1, 1), (6, .iadd, 1), (7, .iaload, 1), (8, .istore_n 2, 1), (9, .aload_n 0, 1), (10, .getfield 66, 3), (13, .iload_n 1, 1), (14, .iconst 2, 1), (15, .iadd, 1), (16, .iaload, 1), (17, .istore_n 3, 1), (18, .aload_n 0, 1), (19, .getfield 66, 3), (22, .iload_n 1, 1), (23, .iconst 3, 1), (24, .iadd, 1), (25, .iaload, 1), (26, .istore 4, 2), (28, .aload_n 0, 1), (29, .getfield 66, 3), (32, .iload_n 1, 1), (33, .iaload, 1), (34, .lookupswitch (90) #[(99, 34), (115, 44), (118, 66)], 34), (68, .aload_n 0, 1), (69, .iload_n 1, 1), (70, .iload_n 2, 1), (71, .iload_n 3, 1), (72, .iload 4, 2), (74, .invokevirtual 367, 3), (77, .ireturn, 1), (78, .aload_n 0, 1), (79, .iload_n 2, 1), (80, .iload 4, 2), (82, .invokevirtual 337, 3), (85, .ifCond .ge (5), 3), (88, .iconst 0, 1), (89, .ireturn, 1), (90, .aload_n 0, 1), (91, .iload_n 2, 1), (92, .iload 4, 2), (94, .invokevirtual 340, 3), (97, .pop, 1), (98, .iconst 1, 1), (99, .ireturn, 1), (100, .aload_n 0, 1), (101, .iload_n 2, 1), (102, .iload_n 3, 1), (103, .iload 4, 2), (105, .invokevirtual 352, 3), (108, .ifCond .ge (5), 3), (111, .iconst 0, 1), (112, .ireturn, 1), (113, .aload_n 0, 1), (114, .iload_n 2, 1), (115, .iload_n 3, 1), (116, .iload 4, 2), (118, .invokevirtual 355, 3), (121, .pop, 1), (122, .iconst 1, 1), (123, .ireturn, 1), (124, .aload_n 0, 1), (125, .iload_n 2, 1), (126, .iload_n 3, 1), (127, .iload 4, 2), (129, .invokevirtual 343, 3), (132, .ifCond .ge (5), 3), (135, .iconst 0, 1), (136, .ireturn, 1), (137, .aload_n 0, 1), (138, .iload_n 3, 1), (139, .iload 4, 2), (141, .invokevirtual 346, 3), (144, .pop, 1), (145, .iconst 1, 1), (146, .ireturn, 1)]
set_option maxRecDepth 200000 in
theorem mo_act_code_ok : px_code prog_13_method_71_code mo_act_code = true := by decide +kernel
noncomputable def mo_act_orc : pC := px_orc [(244, fun a h => match a with
    | [.inr (.inl 51), .inl v1, .inl v2, .inl v3, .inl v4] => mo_actCross v1 v2 v3 v4 h
    | _ => none), (231, fun a h => match a with
    | [.inr (.inl 51), .inl v1, .inl v2] => mo_refusesSay v1 v2 h
    | _ => none), (232, fun a h => match a with
    | [.inr (.inl 51), .inl v1, .inl v2] => mo_goSay v1 v2 h
    | _ => none), (238, fun a h => match a with
    | [.inr (.inl 51), .inl v1, .inl v2, .inl v3] => mo_refusesSell v1 v2 v3 h
    | _ => none), (239, fun a h => match a with
    | [.inr (.inl 51), .inl v1, .inl v2, .inl v3] => mo_goSell v1 v2 v3 h
    | _ => none), (234, fun a h => match a with
    | [.inr (.inl 51), .inl v1, .inl v2, .inl v3] => mo_refusesWhisper v1 v2 v3 h
    | _ => none), (235, fun a h => match a with
    | [.inr (.inl 51), .inl v1, .inl v2] => mo_goWhisper v1 v2 h
    | _ => none)]
theorem mo_act_orc_ok {d : Nat} : px_Or (d + 107) (mo_act_orc) := px_orc_ok (by
  refine px_o1 (fun a h q e => by
    dsimp only at e
    split at e
    · exact mo_actCross_ok (d := d + 0) e
    · cases e) ?_
  refine px_o1 (fun a h q e => by
    dsimp only at e
    split at e
    · exact mo_refusesSay_ok (d := d + 104) e
    · cases e) ?_
  refine px_o1 (fun a h q e => by
    dsimp only at e
    split at e
    · exact mo_goSay_ok (d := d + 105) e
    · cases e) ?_
  refine px_o1 (fun a h q e => by
    dsimp only at e
    split at e
    · exact mo_refusesSell_ok (d := d + 103) e
    · cases e) ?_
  refine px_o1 (fun a h q e => by
    dsimp only at e
    split at e
    · exact mo_goSell_ok (d := d + 105) e
    · cases e) ?_
  refine px_o1 (fun a h q e => by
    dsimp only at e
    split at e
    · exact mo_refusesWhisper_ok (d := d + 103) e
    · cases e) ?_
  refine px_o1 (fun a h q e => by
    dsimp only at e
    split at e
    · exact mo_goWhisper_ok (d := d + 105) e
    · cases e) ?_
  exact px_o0)
set_option maxRecDepth 200000 in
theorem mo_act_ok {d : Nat} {x1 : Int32} {h : pH} {q : Int32 × pH} (e : mo_act x1 h = some q) : px_Con (d + 108) 243 [.inr (.inl 51), .inl x1] h q :=
  px_con (X := pX_RX11) (b := prog_13_method_71_code) (nL := 5) (rt := (some .boolean)) rfl rfl (Nat.le_of_ble_eq_true rfl) rfl (px_blk_ok (d := d + 107) (M := (pX_RX11, prog_13_method_71_code, 5, (some .boolean))) (C := mo_act_orc) (code := mo_act_code) (ld := []) (kl := []) (mo_act_orc_ok) pX_ok_RX11 mo_act_code_ok (px_k0) 83 0 _ _ _ q e)
/-! WordsUnsaidModel.day()I -/
noncomputable def mo_day_173 (x3 : Int32) (s0 : Int32) (h : pH) : pR :=
  px_bind (mo_tell s0 h) fun _ h2 =>
  px_bind (mo_tell (h2 51 39) h2) fun _ h4 =>
  some (x3, h4)
noncomputable def mo_day_157 (x1 : Int32) (x3 : Int32) (h : pH) : pR :=
  let h1 := px_w h 51 13 (px_c 0)
  if x1 ≤ x3 then
    mo_day_173 x3 (px_c 0) h1
  else
    mo_day_173 x3 (px_c 1) h1
noncomputable def mo_day_145 (x1 : Int32) (x3 : Int32) (h : pH) : pR :=
  if x3 ≤ 0 then
    mo_day_157 x1 x3 h
  else
    px_bind (mo_remember 67 h) fun _ h2 =>
    mo_day_157 x1 x3 h2
noncomputable def mo_day_123 : Nat → Int32 → Int32 → pH → pR
  | 0, _, _, _ => none
  | n + 1, x1, x3, h =>
    if x1 ≤ x3 then
      mo_day_145 x1 x3 h
    else
      px_bind (mo_act ((px_c 11) * x3) h) fun z1 h2 =>
      if z1 = 0 then
        mo_day_145 x1 x3 h2
      else
        mo_day_123 n x1 (x3 + px_c 1) h2
noncomputable def mo_day_90 (x1 : Int32) (h : pH) : pR :=
  px_bind (mo_fine h) fun z1 h2 =>
  if z1 = 0 then
    some ((px_c (-1)) - (h2 51 19), h2)
  else
    px_bind (mo_lay 52 67 (px_c 0) h2) fun _ h4 =>
    let h5 := px_w h4 51 39 (px_c 0)
    mo_day_123 px_F x1 (px_c 0) h5
noncomputable def mo_day_71 (x1 : Int32) (h : pH) : pR :=
  if (h 51 16) ≤ (h 51 18) then
    mo_day_90 x1 h
  else
    px_bind (mo_fault (h 51 18) h) fun _ h2 =>
    mo_day_90 x1 h2
noncomputable def mo_day_39 : Nat → Int32 → Int32 → pH → pR
  | 0, _, _, _ => none
  | n + 1, x1, x2, h =>
    if x2 = 0 then
      mo_day_71 x1 h
    else
      px_bind (mo_fine h) fun z1 h2 =>
      if z1 = 0 then
        mo_day_71 x1 h2
      else
        px_bind (mo_readAct ((px_c 11) * x1) h2) fun _ h4 =>
        px_bind (mo_passes (px_c 59) h4) fun z5 h6 =>
        mo_day_39 n (x1 + px_c 1) z5 h6
noncomputable def mo_day_38 (x1 : Int32) (s0 : Int32) (h : pH) : pR :=
  mo_day_39 px_F x1 s0 h
noncomputable def mo_day_24 (h : pH) : pR :=
  if (h 51 16) ≤ 0 then
    mo_day_38 (px_c 0) (px_c 0) h
  else
    mo_day_38 (px_c 0) (px_c 1) h
noncomputable def mo_day (h : pH) : pR :=
  let h1 := px_w h 51 14 (px_c 0)
  px_bind (mo_begin 58 (h1 51 11) (px_c 60) h1) fun _ h3 =>
  let h4 := px_w h3 51 11 (px_c 0)
  mo_day_24 h4
def mo_day_code : pCode := [(0, .aload_n 0, 1), (1, .iconst 0, 1), (2, .putfield 106, 3), (5, .aload_n 0, 1), (6, .aload_n 0, 1), (7, .getfield 32, 3), (10, .aload_n 0, 1), (11, .getfield 129, 3), (14, .bipush (60), 2), (16, .invokevirtual 171, 3), (19, .aload_n 0, 1), (20, .iconst 0, 1), (21, .putfield 129, 3), (24, .iconst 0, 1), (25, .istore_n 1, 1), (26, .aload_n 0, 1), (27, .getfield 135, 3), (30, .ifCond .le (7), 3), (33, .iconst 1, 1), (34, .goto (4), 3), (37, .iconst 0, 1), (38, .istore_n 2, 1), (39, .iload_n 2, 1), (40, .ifCond .eq (31), 3), (43, .aload_n 0, 1), (44, .invokevirtual 147, 3), (47, .ifCond .eq (24), 3), (50, .aload_n 0, 1), (51, .bipush (11), 2), (53, .iload_n 1, 1), (54, .imul, 1), (55, .invokevirtual 358, 3), (58, .iinc 1 (1), 3), (61, .aload_n 0, 1), (62, .bipush (59), 2), (64, .invokevirtual 155, 3), (67, .istore_n 2, 1), (68, .goto (-29), 3), (71, .aload_n 0, 1), (72, .getfield 141, 3), (75, .aload_n 0, 1), (76, .getfield 135, 3), (79, .if_icmp .ge (11), 3), (82, .aload_n 0, 1), (83, .aload_n 0, 1), (84, .getfield 141, 3), (87, .invokevirtual 159, 3), (90, .aload_n 0, 1), (91, .invokevirtual 147, 3), (94, .ifCond .ne (10), 3), (97, .iconst (-1), 1), (98, .aload_n 0, 1), (99, .getfield 144, 3), (102, .isub, 1), (103, .ireturn, 1), (104, .aload_n 0, 1), (105, .getfield 9, 3), (108, .aload_n 0, 1), (109, .getfield 60, 3), (112, .iconst 0, 1), (113, .invokestatic 295, 3), (116, .aload_n 0, 1), (117, .iconst 0, 1), (118, .putfield 361, 3), (121, .iconst 0, 1), (122, .istore_n 3, 1), (123, .iload_n 3, 1), (124, .iload_n 1, 1), (125, .if_icmp .ge (20), 3), (128, .aload_n 0, 1), (129, .bipush (11), 2), (131, .iload_n 3, 1), (132, .imul, 1), (133, .invokevirtual 364, 3), (136, .ifCond .eq (9), 3), (139, .iinc 3 (1), 3), (142, .goto (-19), 3), (145, .iload_n 3, 1), (146, .ifCond .le (11), 3), (149, .aload_n 0, 1), (150, .aload_n 0, 1), (151, .getfield 60, 3), (154, .invokevirtual 322, 3), (157, .aload_n 0, 1), (158, .iconst 0, 1), (159, .putfield 109, 3), (162, .aload_n 0, 1), (163, .iload_n 3, 1), (164, .iload_n 1, 1), (165, .if_icmp .ge (7), 3), (168, .iconst 1, 1), (169, .goto (4), 3), (172, .iconst 0, 1), (173, .invokevirtual 312, 3), (176, .aload_n 0, 1), (177, .aload_n 0, 1), (178, .getfield 361, 3), (181, .invokevirtual 312, 3), (184, .iload_n 3, 1), (185, .ireturn, 1)]
set_option maxRecDepth 200000 in
theorem mo_day_code_ok : px_code prog_13_method_69_code mo_day_code = true := by decide +kernel
noncomputable def mo_day_orc : pC := px_orc [(178, fun a h => match a with
    | [.inr (.inl 51), .inl v1] => mo_tell v1 h
    | _ => none), (224, fun a h => match a with
    | [.inr (.inl 51), .inr (.inl v1)] => mo_remember v1 h
    | _ => none), (243, fun a h => match a with
    | [.inr (.inl 51), .inl v1] => mo_act v1 h
    | _ => none), (189, fun a h => match a with
    | [.inr (.inl 51)] => mo_fine h
    | _ => none), (223, fun a h => match a with
    | [.inr (.inl v0), .inr (.inl v1), .inl v2] => mo_lay v0 v1 v2 h
    | _ => none), (190, fun a h => match a with
    | [.inr (.inl 51), .inl v1] => mo_fault v1 h
    | _ => none), (242, fun a h => match a with
    | [.inr (.inl 51), .inl v1] => mo_readAct v1 h
    | _ => none), (191, fun a h => match a with
    | [.inr (.inl 51), .inl v1] => mo_passes v1 h
    | _ => none), (187, fun a h => match a with
    | [.inr (.inl 51), .inr (.inl v1), .inl v2, .inl v3] => mo_begin v1 v2 v3 h
    | _ => none)]
theorem mo_day_orc_ok {d : Nat} : px_Or (d + 108) (mo_day_orc) := px_orc_ok (by
  refine px_o1 (fun a h q e => by
    dsimp only at e
    split at e
    · exact mo_tell_ok (d := d + 107) e
    · cases e) ?_
  refine px_o1 (fun a h q e => by
    dsimp only at e
    split at e
    · exact mo_remember_ok (d := d + 106) e
    · cases e) ?_
  refine px_o1 (fun a h q e => by
    dsimp only at e
    split at e
    · exact mo_act_ok (d := d + 0) e
    · cases e) ?_
  refine px_o1 (fun a h q e => by
    dsimp only at e
    split at e
    · exact mo_fine_ok (d := d + 107) e
    · cases e) ?_
  refine px_o1 (fun a h q e => by
    dsimp only at e
    split at e
    · exact mo_lay_ok (d := d + 107) e
    · cases e) ?_
  refine px_o1 (fun a h q e => by
    dsimp only at e
    split at e
    · exact mo_fault_ok (d := d + 106) e
    · cases e) ?_
  refine px_o1 (fun a h q e => by
    dsimp only at e
    split at e
    · exact mo_readAct_ok (d := d + 104) e
    · cases e) ?_
  refine px_o1 (fun a h q e => by
    dsimp only at e
    split at e
    · exact mo_passes_ok (d := d + 106) e
    · cases e) ?_
  refine px_o1 (fun a h q e => by
    dsimp only at e
    split at e
    · exact mo_begin_ok (d := d + 107) e
    · cases e) ?_
  exact px_o0)
set_option maxRecDepth 200000 in
theorem mo_day_173_ok {d : Nat} : ∀ (x3 : Int32) (s0 : Int32) (h : pH) (q : Int32 × pH), mo_day_173 x3 s0 h = some q → px_G (d + 108 + 1) (pX_RX11, prog_13_method_69_code, 4, (some .int)) 173 [some (.inr (.inl 51)), none, none, some (.inl x3)] [.inl s0, .inr (.inl 51)] h q := by
  intro x3 s0 h q e
  exact px_blk_ok (d := d + 108) (M := (pX_RX11, prog_13_method_69_code, 4, (some .int))) (C := mo_day_orc) (code := mo_day_code) (ld := []) (kl := []) (mo_day_orc_ok) pX_ok_RX11 mo_day_code_ok (px_k0) 105 173 _ _ h q e
set_option maxRecDepth 200000 in
theorem mo_day_157_ok {d : Nat} : ∀ (x1 : Int32) (x3 : Int32) (h : pH) (q : Int32 × pH), mo_day_157 x1 x3 h = some q → px_G (d + 108 + 1) (pX_RX11, prog_13_method_69_code, 4, (some .int)) 157 [some (.inr (.inl 51)), some (.inl x1), none, some (.inl x3)] [] h q := by
  intro x1 x3 h q e
  exact px_blk_ok (d := d + 108) (M := (pX_RX11, prog_13_method_69_code, 4, (some .int))) (C := mo_day_orc) (code := mo_day_code) (ld := [173]) (kl := [(173, fun ls st h => px_if (px_fit [61, 0, 0, 1] ls && px_fits [1, 61] st) (mo_day_173 (px_gi ls 3) (px_si st 0) h))]) (mo_day_orc_ok) pX_ok_RX11 mo_day_code_ok (px_k1 (px_ko (ts := [61, 0, 0, 1]) (ss := [1, 61]) fun ls st h q e => mo_day_173_ok _ _ _ _ e) px_k0) 105 157 _ _ h q e
set_option maxRecDepth 200000 in
theorem mo_day_145_ok {d : Nat} : ∀ (x1 : Int32) (x3 : Int32) (h : pH) (q : Int32 × pH), mo_day_145 x1 x3 h = some q → px_G (d + 108 + 1) (pX_RX11, prog_13_method_69_code, 4, (some .int)) 145 [some (.inr (.inl 51)), some (.inl x1), none, some (.inl x3)] [] h q := by
  intro x1 x3 h q e
  exact px_blk_ok (d := d + 108) (M := (pX_RX11, prog_13_method_69_code, 4, (some .int))) (C := mo_day_orc) (code := mo_day_code) (ld := [157]) (kl := [(157, fun ls st h => px_if (px_fit [61, 1, 0, 1] ls && px_fits [] st) (mo_day_157 (px_gi ls 1) (px_gi ls 3) h))]) (mo_day_orc_ok) pX_ok_RX11 mo_day_code_ok (px_k1 (px_ko (ts := [61, 1, 0, 1]) (ss := []) fun ls st h q e => mo_day_157_ok _ _ _ _ e) px_k0) 105 145 _ _ h q e
set_option maxRecDepth 200000 in
theorem mo_day_123_ok {d : Nat} : ∀ (n : Nat) (x1 : Int32) (x3 : Int32) (h : pH) (q : Int32 × pH), mo_day_123 n x1 x3 h = some q → px_G (d + 108 + 1) (pX_RX11, prog_13_method_69_code, 4, (some .int)) 123 [some (.inr (.inl 51)), some (.inl x1), none, some (.inl x3)] [] h q := by
  intro n
  induction n with
  | zero =>
    intro x1 x3 h q e
    cases e
  | succ n ih =>
    intro x1 x3 h q e
    exact px_blk_ok (d := d + 108) (M := (pX_RX11, prog_13_method_69_code, 4, (some .int))) (C := mo_day_orc) (code := mo_day_code) (ld := [123, 145]) (kl := [(123, fun ls st h => px_if (px_fit [61, 1, 0, 1] ls && px_fits [] st) (mo_day_123 n (px_gi ls 1) (px_gi ls 3) h)), (145, fun ls st h => px_if (px_fit [61, 1, 0, 1] ls && px_fits [] st) (mo_day_145 (px_gi ls 1) (px_gi ls 3) h))]) (mo_day_orc_ok) pX_ok_RX11 mo_day_code_ok (px_k1 (px_ko (ts := [61, 1, 0, 1]) (ss := []) fun ls st h q e => ih _ _ _ _ e) (px_k1 (px_ko (ts := [61, 1, 0, 1]) (ss := []) fun ls st h q e => mo_day_145_ok _ _ _ _ e) px_k0)) 105 123 _ _ h q e
set_option maxRecDepth 200000 in
theorem mo_day_90_ok {d : Nat} : ∀ (x1 : Int32) (h : pH) (q : Int32 × pH), mo_day_90 x1 h = some q → px_G (d + 108 + 1) (pX_RX11, prog_13_method_69_code, 4, (some .int)) 90 [some (.inr (.inl 51)), some (.inl x1), none, none] [] h q := by
  intro x1 h q e
  exact px_blk_ok (d := d + 108) (M := (pX_RX11, prog_13_method_69_code, 4, (some .int))) (C := mo_day_orc) (code := mo_day_code) (ld := [123]) (kl := [(123, fun ls st h => px_if (px_fit [61, 1, 0, 1] ls && px_fits [] st) (mo_day_123 px_F (px_gi ls 1) (px_gi ls 3) h))]) (mo_day_orc_ok) pX_ok_RX11 mo_day_code_ok (px_k1 (px_ko (ts := [61, 1, 0, 1]) (ss := []) fun ls st h q e => mo_day_123_ok _ _ _ _ _ e) px_k0) 105 90 _ _ h q e
set_option maxRecDepth 200000 in
theorem mo_day_71_ok {d : Nat} : ∀ (x1 : Int32) (h : pH) (q : Int32 × pH), mo_day_71 x1 h = some q → px_G (d + 108 + 1) (pX_RX11, prog_13_method_69_code, 4, (some .int)) 71 [some (.inr (.inl 51)), some (.inl x1), none, none] [] h q := by
  intro x1 h q e
  exact px_blk_ok (d := d + 108) (M := (pX_RX11, prog_13_method_69_code, 4, (some .int))) (C := mo_day_orc) (code := mo_day_code) (ld := [90]) (kl := [(90, fun ls st h => px_if (px_fit [61, 1, 0, 0] ls && px_fits [] st) (mo_day_90 (px_gi ls 1) h))]) (mo_day_orc_ok) pX_ok_RX11 mo_day_code_ok (px_k1 (px_ko (ts := [61, 1, 0, 0]) (ss := []) fun ls st h q e => mo_day_90_ok _ _ _ e) px_k0) 105 71 _ _ h q e
set_option maxRecDepth 200000 in
theorem mo_day_39_ok {d : Nat} : ∀ (n : Nat) (x1 : Int32) (x2 : Int32) (h : pH) (q : Int32 × pH), mo_day_39 n x1 x2 h = some q → px_G (d + 108 + 1) (pX_RX11, prog_13_method_69_code, 4, (some .int)) 39 [some (.inr (.inl 51)), some (.inl x1), some (.inl x2), none] [] h q := by
  intro n
  induction n with
  | zero =>
    intro x1 x2 h q e
    cases e
  | succ n ih =>
    intro x1 x2 h q e
    exact px_blk_ok (d := d + 108) (M := (pX_RX11, prog_13_method_69_code, 4, (some .int))) (C := mo_day_orc) (code := mo_day_code) (ld := [39, 71]) (kl := [(39, fun ls st h => px_if (px_fit [61, 1, 1, 0] ls && px_fits [] st) (mo_day_39 n (px_gi ls 1) (px_gi ls 2) h)), (71, fun ls st h => px_if (px_fit [61, 1, 0, 0] ls && px_fits [] st) (mo_day_71 (px_gi ls 1) h))]) (mo_day_orc_ok) pX_ok_RX11 mo_day_code_ok (px_k1 (px_ko (ts := [61, 1, 1, 0]) (ss := []) fun ls st h q e => ih _ _ _ _ e) (px_k1 (px_ko (ts := [61, 1, 0, 0]) (ss := []) fun ls st h q e => mo_day_71_ok _ _ _ e) px_k0)) 105 39 _ _ h q e
set_option maxRecDepth 200000 in
theorem mo_day_38_ok {d : Nat} : ∀ (x1 : Int32) (s0 : Int32) (h : pH) (q : Int32 × pH), mo_day_38 x1 s0 h = some q → px_G (d + 108 + 1) (pX_RX11, prog_13_method_69_code, 4, (some .int)) 38 [some (.inr (.inl 51)), some (.inl x1), none, none] [.inl s0] h q := by
  intro x1 s0 h q e
  exact px_blk_ok (d := d + 108) (M := (pX_RX11, prog_13_method_69_code, 4, (some .int))) (C := mo_day_orc) (code := mo_day_code) (ld := [39]) (kl := [(39, fun ls st h => px_if (px_fit [61, 1, 1, 0] ls && px_fits [] st) (mo_day_39 px_F (px_gi ls 1) (px_gi ls 2) h))]) (mo_day_orc_ok) pX_ok_RX11 mo_day_code_ok (px_k1 (px_ko (ts := [61, 1, 1, 0]) (ss := []) fun ls st h q e => mo_day_39_ok _ _ _ _ _ e) px_k0) 105 38 _ _ h q e
set_option maxRecDepth 200000 in
theorem mo_day_24_ok {d : Nat} : ∀ (h : pH) (q : Int32 × pH), mo_day_24 h = some q → px_G (d + 108 + 1) (pX_RX11, prog_13_method_69_code, 4, (some .int)) 24 [some (.inr (.inl 51)), none, none, none] [] h q := by
  intro h q e
  exact px_blk_ok (d := d + 108) (M := (pX_RX11, prog_13_method_69_code, 4, (some .int))) (C := mo_day_orc) (code := mo_day_code) (ld := [38]) (kl := [(38, fun ls st h => px_if (px_fit [61, 1, 0, 0] ls && px_fits [1] st) (mo_day_38 (px_gi ls 1) (px_si st 0) h))]) (mo_day_orc_ok) pX_ok_RX11 mo_day_code_ok (px_k1 (px_ko (ts := [61, 1, 0, 0]) (ss := [1]) fun ls st h q e => mo_day_38_ok _ _ _ _ e) px_k0) 105 24 _ _ h q e
set_option maxRecDepth 200000 in
theorem mo_day_ok {d : Nat} {h : pH} {q : Int32 × pH} (e : mo_day h = some q) : px_Con (d + 109) 241 [.inr (.inl 51)] h q :=
  px_con (X := pX_RX11) (b := prog_13_method_69_code) (nL := 4) (rt := (some .int)) rfl rfl (Nat.le_of_ble_eq_true rfl) rfl (px_blk_ok (d := d + 108) (M := (pX_RX11, prog_13_method_69_code, 4, (some .int))) (C := mo_day_orc) (code := mo_day_code) (ld := [24]) (kl := [(24, fun ls st h => px_if (px_fit [61, 0, 0, 0] ls && px_fits [] st) (mo_day_24 h))]) (mo_day_orc_ok) pX_ok_RX11 mo_day_code_ok (px_k1 (px_ko (ts := [61, 0, 0, 0]) (ss := []) fun ls st h q e => mo_day_24_ok _ _ e) px_k0) 105 0 _ _ _ q e)
/-! WordsUnsaidModel.undo()I -/
noncomputable def mo_undo_26 : Nat → Int32 → pH → pR
  | 0, _, _ => none
  | n + 1, x1, h =>
    if (px_c 52) ≤ x1 then
      some (h 51 35, h)
    else
      px_if (px_ok 0 66 (((px_c 52) * (h 51 35)) + x1)) <|
      px_if (px_ok 0 52 x1) <|
      let h1 := px_w h 52 x1.toNatClampNeg (h 66 (((px_c 52) * (h 51 35)) + x1).toNatClampNeg)
      mo_undo_26 n (x1 + px_c 1) h1
noncomputable def mo_undo_24 (h : pH) : pR :=
  mo_undo_26 px_F (px_c 0) h
noncomputable def mo_undo (h : pH) : pR :=
  let h1 := px_w h 51 14 (px_c 0)
  if (h1 51 35) = 0 then
    some (px_c (-1), h1)
  else
    let h2 := px_w h1 51 35 ((h1 51 35) - (px_c 1))
    mo_undo_24 h2
def mo_undo_code : pCode := [(0, .aload_n 0, 1), (1, .iconst 0, 1), (2, .putfield 106, 3), (5, .aload_n 0, 1), (6, .getfield 177, 3), (9, .ifCond .ne (5), 3), (12, .iconst (-1), 1), (13, .ireturn, 1), (14, .aload_n 0, 1), (15, .dup, 1), (16, .getfield 177, 3), (19, .iconst 1, 1), (20, .isub, 1), (21, .putfield 177, 3), (24, .iconst 0, 1), (25, .istore_n 1, 1), (26, .iload_n 1, 1), (27, .bipush (52), 2), (29, .if_icmp .ge (29), 3), (32, .aload_n 0, 1), (33, .getfield 9, 3), (36, .iload_n 1, 1), (37, .aload_n 0, 1), (38, .getfield 57, 3), (41, .bipush (52), 2), (43, .aload_n 0, 1), (44, .getfield 177, 3), (47, .imul, 1), (48, .iload_n 1, 1), (49, .iadd, 1), (50, .iaload, 1), (51, .iastore, 1), (52, .iinc 1 (1), 3), (55, .goto (-29), 3), (58, .aload_n 0, 1), (59, .getfield 177, 3), (62, .ireturn, 1)]
set_option maxRecDepth 200000 in
theorem mo_undo_code_ok : px_code prog_13_method_73_code mo_undo_code = true := by decide +kernel
noncomputable def mo_undo_orc : pC := px_orc []
theorem mo_undo_orc_ok {d : Nat} : px_Or (d + 0) (mo_undo_orc) := px_orc_ok (by
  exact px_o0)
set_option maxRecDepth 200000 in
theorem mo_undo_26_ok {d : Nat} : ∀ (n : Nat) (x1 : Int32) (h : pH) (q : Int32 × pH), mo_undo_26 n x1 h = some q → px_G (d + 0 + 1) (pX_RX11, prog_13_method_73_code, 2, (some .int)) 26 [some (.inr (.inl 51)), some (.inl x1)] [] h q := by
  intro n
  induction n with
  | zero =>
    intro x1 h q e
    cases e
  | succ n ih =>
    intro x1 h q e
    exact px_blk_ok (d := d + 0) (M := (pX_RX11, prog_13_method_73_code, 2, (some .int))) (C := mo_undo_orc) (code := mo_undo_code) (ld := [26]) (kl := [(26, fun ls st h => px_if (px_fit [61, 1] ls && px_fits [] st) (mo_undo_26 n (px_gi ls 1) h))]) (mo_undo_orc_ok) pX_ok_RX11 mo_undo_code_ok (px_k1 (px_ko (ts := [61, 1]) (ss := []) fun ls st h q e => ih _ _ _ e) px_k0) 42 26 _ _ h q e
set_option maxRecDepth 200000 in
theorem mo_undo_24_ok {d : Nat} : ∀ (h : pH) (q : Int32 × pH), mo_undo_24 h = some q → px_G (d + 0 + 1) (pX_RX11, prog_13_method_73_code, 2, (some .int)) 24 [some (.inr (.inl 51)), none] [] h q := by
  intro h q e
  exact px_blk_ok (d := d + 0) (M := (pX_RX11, prog_13_method_73_code, 2, (some .int))) (C := mo_undo_orc) (code := mo_undo_code) (ld := [26]) (kl := [(26, fun ls st h => px_if (px_fit [61, 1] ls && px_fits [] st) (mo_undo_26 px_F (px_gi ls 1) h))]) (mo_undo_orc_ok) pX_ok_RX11 mo_undo_code_ok (px_k1 (px_ko (ts := [61, 1]) (ss := []) fun ls st h q e => mo_undo_26_ok _ _ _ _ e) px_k0) 42 24 _ _ h q e
set_option maxRecDepth 200000 in
theorem mo_undo_ok {d : Nat} {h : pH} {q : Int32 × pH} (e : mo_undo h = some q) : px_Con (d + 1) 245 [.inr (.inl 51)] h q :=
  px_con (X := pX_RX11) (b := prog_13_method_73_code) (nL := 2) (rt := (some .int)) rfl rfl (Nat.le_of_ble_eq_true rfl) rfl (px_blk_ok (d := d + 0) (M := (pX_RX11, prog_13_method_73_code, 2, (some .int))) (C := mo_undo_orc) (code := mo_undo_code) (ld := [24]) (kl := [(24, fun ls st h => px_if (px_fit [61, 0] ls && px_fits [] st) (mo_undo_24 h))]) (mo_undo_orc_ok) pX_ok_RX11 mo_undo_code_ok (px_k1 (px_ko (ts := [61, 0]) (ss := []) fun ls st h q e => mo_undo_24_ok _ _ e) px_k0) 42 0 _ _ _ q e)
/-! WordsUnsaidModel.far(II)I -/
noncomputable def mo_far_45 (s0 : Int32) (h : pH) : pR :=
  some (s0, h)
noncomputable def mo_far_44 (h : pH) : pR :=
  mo_far_45 (px_c (-1)) h
noncomputable def mo_far (x1 : Int32) (x2 : Int32) (h : pH) : pR :=
  let h1 := px_w h 51 14 (px_c 0)
  px_bind (mo_isPerson x1 h1) fun z2 h3 =>
  if z2 = 0 then
    mo_far_44 h3
  else
    px_bind (mo_isBank x2 h3) fun z4 h5 =>
    if z4 = 0 then
      mo_far_44 h5
    else
      px_if (px_ok 0 52 x1) <|
      if (h5 52 x1.toNatClampNeg) = x2 then
        mo_far_44 h5
      else
        px_if (px_ok 0 52 x1) <|
        px_bind (mo_distance (h5 52 x1.toNatClampNeg) x2 h5) fun z6 h7 =>
        mo_far_45 z6 h7
def mo_far_code : pCode := [(0, .aload_n 0, 1), (1, .iconst 0, 1), (2, .putfield 106, 3), (5, .aload_n 0, 1), (6, .iload_n 1, 1), (7, .invokevirtual 122, 3), (10, .ifCond .eq (34), 3), (13, .iload_n 2, 1), (14, .invokestatic 302, 3), (17, .ifCond .eq (27), 3), (20, .aload_n 0, 1), (21, .getfield 9, 3), (24, .iload_n 1, 1), (25, .iaload, 1), (26, .iload_n 2, 1), (27, .if_icmp .eq (17), 3), (30, .aload_n 0, 1), (31, .aload_n 0, 1), (32, .getfield 9, 3), (35, .iload_n 1, 1), (36, .iaload, 1), (37, .iload_n 2, 1), (38, .invokevirtual 268, 3), (41, .goto (4), 3), (44, .iconst (-1), 1), (45, .ireturn, 1)]
set_option maxRecDepth 200000 in
theorem mo_far_code_ok : px_code prog_13_method_74_code mo_far_code = true := by decide +kernel
noncomputable def mo_far_orc : pC := px_orc [(179, fun a h => match a with
    | [.inr (.inl 51), .inl v1] => mo_isPerson v1 h
    | _ => none), (183, fun a h => match a with
    | [.inl v0] => mo_isBank v0 h
    | _ => none), (218, fun a h => match a with
    | [.inr (.inl 51), .inl v1, .inl v2] => mo_distance v1 v2 h
    | _ => none)]
theorem mo_far_orc_ok {d : Nat} : px_Or (d + 2) (mo_far_orc) := px_orc_ok (by
  refine px_o1 (fun a h q e => by
    dsimp only at e
    split at e
    · exact mo_isPerson_ok (d := d + 0) e
    · cases e) ?_
  refine px_o1 (fun a h q e => by
    dsimp only at e
    split at e
    · exact mo_isBank_ok (d := d + 0) e
    · cases e) ?_
  refine px_o1 (fun a h q e => by
    dsimp only at e
    split at e
    · exact mo_distance_ok (d := d + 0) e
    · cases e) ?_
  exact px_o0)
set_option maxRecDepth 200000 in
theorem mo_far_45_ok {d : Nat} : ∀ (s0 : Int32) (h : pH) (q : Int32 × pH), mo_far_45 s0 h = some q → px_G (d + 2 + 1) (pX_RX11, prog_13_method_74_code, 3, (some .int)) 45 [none, none, none] [.inl s0] h q := by
  intro s0 h q e
  exact px_blk_ok (d := d + 2) (M := (pX_RX11, prog_13_method_74_code, 3, (some .int))) (C := mo_far_orc) (code := mo_far_code) (ld := []) (kl := []) (mo_far_orc_ok) pX_ok_RX11 mo_far_code_ok (px_k0) 31 45 _ _ h q e
set_option maxRecDepth 200000 in
theorem mo_far_44_ok {d : Nat} : ∀ (h : pH) (q : Int32 × pH), mo_far_44 h = some q → px_G (d + 2 + 1) (pX_RX11, prog_13_method_74_code, 3, (some .int)) 44 [none, none, none] [] h q := by
  intro h q e
  exact px_blk_ok (d := d + 2) (M := (pX_RX11, prog_13_method_74_code, 3, (some .int))) (C := mo_far_orc) (code := mo_far_code) (ld := [45]) (kl := [(45, fun ls st h => px_if (px_fit [0, 0, 0] ls && px_fits [1] st) (mo_far_45 (px_si st 0) h))]) (mo_far_orc_ok) pX_ok_RX11 mo_far_code_ok (px_k1 (px_ko (ts := [0, 0, 0]) (ss := [1]) fun ls st h q e => mo_far_45_ok _ _ _ e) px_k0) 31 44 _ _ h q e
set_option maxRecDepth 200000 in
theorem mo_far_ok {d : Nat} {x1 : Int32} {x2 : Int32} {h : pH} {q : Int32 × pH} (e : mo_far x1 x2 h = some q) : px_Con (d + 3) 246 [.inr (.inl 51), .inl x1, .inl x2] h q :=
  px_con (X := pX_RX11) (b := prog_13_method_74_code) (nL := 3) (rt := (some .int)) rfl rfl (Nat.le_of_ble_eq_true rfl) rfl (px_blk_ok (d := d + 2) (M := (pX_RX11, prog_13_method_74_code, 3, (some .int))) (C := mo_far_orc) (code := mo_far_code) (ld := [44, 45]) (kl := [(44, fun ls st h => px_if (px_fit [0, 0, 0] ls && px_fits [] st) (mo_far_44 h)), (45, fun ls st h => px_if (px_fit [0, 0, 0] ls && px_fits [1] st) (mo_far_45 (px_si st 0) h))]) (mo_far_orc_ok) pX_ok_RX11 mo_far_code_ok (px_k1 (px_ko (ts := [0, 0, 0]) (ss := []) fun ls st h q e => mo_far_44_ok _ _ e) (px_k1 (px_ko (ts := [0, 0, 0]) (ss := [1]) fun ls st h q e => mo_far_45_ok _ _ _ e) px_k0)) 31 0 _ _ _ q e)
/-! WordsUnsaidModel.keeps(II)I -/
noncomputable def mo_keeps_47 (h : pH) : pR :=
  some (px_c (-1), h)
noncomputable def mo_keeps_137 (x3 : Int32) (x4 : Int32) (h : pH) : pR :=
  let h1 := px_w h 51 13 (px_c 0)
  px_bind (mo_tell x4 h1) fun _ h3 =>
  some (x3, h3)
noncomputable def mo_keeps_66 : Nat → Int32 → Int32 → Int32 → Int32 → pH → pR
  | 0, _, _, _, _, _ => none
  | n + 1, x1, x2, x3, x4, h =>
    if (px_c 60) ≤ x3 then
      mo_keeps_137 x3 x4 h
    else
      px_if (px_ok 0 68 ((px_c 12) + x2)) <|
      if (h 68 ((px_c 12) + x2).toNatClampNeg) ≤ 0 then
        mo_keeps_137 x3 x4 h
      else
        px_bind (mo_pressureOf 68 x2 x3 x3 ((px_c 1) <<< (x1 &&& 31)) h) fun z1 h2 =>
        px_if (px_ok 0 54 x1) <|
        if z1 ≤ (h2 54 x1.toNatClampNeg) then
          px_if (px_ok 0 68 ((px_c 12) + x2)) <|
          px_if (px_ok 0 68 ((px_c 12) + x2)) <|
          let h3 := px_w h2 68 ((px_c 12) + x2).toNatClampNeg ((h2 68 ((px_c 12) + x2).toNatClampNeg) - (px_c 1))
          mo_keeps_66 n x1 x2 (x3 + px_c 1) x4 h3
        else
          mo_keeps_137 x3 z1 h2
noncomputable def mo_keeps (x1 : Int32) (x2 : Int32) (h : pH) : pR :=
  let h1 := px_w h 51 14 (px_c 0)
  px_bind (mo_isPerson x1 h1) fun z2 h3 =>
  if z2 = 0 then
    mo_keeps_47 h3
  else
    px_bind (mo_isThing x2 h3) fun z4 h5 =>
    if z4 = 0 then
      mo_keeps_47 h5
    else
      px_if (px_ok 0 52 ((px_c 32) + x2)) <|
      if (h5 52 ((px_c 32) + x2).toNatClampNeg) = x1 then
        px_if (px_ok 0 52 ((px_c 22) + x2)) <|
        if (h5 52 ((px_c 22) + x2).toNatClampNeg) = (px_c 1) then
          mo_keeps_47 h5
        else
          px_bind (mo_lay 52 68 (px_c 0) h5) fun _ h7 =>
          mo_keeps_66 px_F x1 x2 (px_c 0) (px_c 0) h7
      else
        mo_keeps_47 h5
def mo_keeps_code : pCode := [(0, .aload_n 0, 1), (1, .iconst 0, 1), (2, .putfield 106, 3), (5, .aload_n 0, 1), (6, .iload_n 1, 1), (7, .invokevirtual 122, 3), (10, .ifCond .eq (37), 3), (13, .aload_n 0, 1), (14, .iload_n 2, 1), (15, .invokevirtual 251, 3), (18, .ifCond .eq (29), 3), (21, .aload_n 0, 1), (22, .getfield 9, 3), (25, .bipush (32), 2), (27, .iload_n 2, 1), (28, .iadd, 1), (29, .iaload, 1), (30, .iload_n 1, 1), (31, .if_icmp .ne (16), 3), (34, .aload_n 0, 1), (35, .getfield 9, 3), (38, .bipush (22), 2), (40, .iload_n 2, 1), (41, .iadd, 1), (42, .iaload, 1), (43, .iconst 1, 1), (44, .if_icmp .ne (5), 3), (47, .iconst (-1), 1), (48, .ireturn, 1), (49, .aload_n 0, 1), (50, .getfield 9, 3), (53, .aload_n 0, 1), (54, .getfield 63, 3), (57, .iconst 0, 1), (58, .invokestatic 295, 3), (61, .iconst 0, 1), (62, .istore_n 3, 1), (63, .iconst 0, 1), (64, .istore 4, 2), (66, .iload_n 3, 1), (67, .bipush (60), 2), (69, .if_icmp .ge (68), 3), (72, .aload_n 0, 1), (73, .getfield 63, 3), (76, .bipush (12), 2), (78, .iload_n 2, 1), (79, .iadd, 1), (80, .iaload, 1), (81, .ifCond .le (56), 3), (84, .aload_n 0, 1), (85, .aload_n 0, 1), (86, .getfield 63, 3), (89, .iload_n 2, 1), (90, .iload_n 3, 1), (91, .iload_n 3, 1), (92, .iconst 1, 1), (93, .iload_n 1, 1), (94, .ishl, 1), (95, .invokevirtual 277, 3), (98, .istore 5, 2), (100, .iload 5, 2), (102, .aload_n 0, 1), (103, .getfield 20, 3), (106, .iload_n 1, 1), (107, .iaload, 1), (108, .if_icmp .le (10), 3), (111, .iload 5, 2), (113, .istore 4, 2), (115, .goto (22), 3), (118, .aload_n 0, 1), (119, .getfield 63, 3), (122, .bipush (12), 2), (124, .iload_n 2, 1), (125, .iadd, 1), (126, .dup2, 1), (127, .iaload, 1), (128, .iconst 1, 1), (129, .isub, 1), (130, .iastore, 1), (131, .iinc 3 (1), 3), (134, .goto (-68), 3), (137, .aload_n 0, 1), (138, .iconst 0, 1), (139, .putfield 109, 3), (142, .aload_n 0, 1), (143, .iload 4, 2), (145, .invokevirtual 312, 3), (148, .iload_n 3, 1), (149, .ireturn, 1)]
set_option maxRecDepth 200000 in
theorem mo_keeps_code_ok : px_code prog_13_method_75_code mo_keeps_code = true := by decide +kernel
noncomputable def mo_keeps_orc : pC := px_orc [(178, fun a h => match a with
    | [.inr (.inl 51), .inl v1] => mo_tell v1 h
    | _ => none), (206, fun a h => match a with
    | [.inr (.inl 51), .inr (.inl v1), .inl v2, .inl v3, .inl v4, .inl v5] => mo_pressureOf v1 v2 v3 v4 v5 h
    | _ => none), (179, fun a h => match a with
    | [.inr (.inl 51), .inl v1] => mo_isPerson v1 h
    | _ => none), (180, fun a h => match a with
    | [.inr (.inl 51), .inl v1] => mo_isThing v1 h
    | _ => none), (223, fun a h => match a with
    | [.inr (.inl v0), .inr (.inl v1), .inl v2] => mo_lay v0 v1 v2 h
    | _ => none)]
theorem mo_keeps_orc_ok {d : Nat} : px_Or (d + 105) (mo_keeps_orc) := px_orc_ok (by
  refine px_o1 (fun a h q e => by
    dsimp only at e
    split at e
    · exact mo_tell_ok (d := d + 104) e
    · cases e) ?_
  refine px_o1 (fun a h q e => by
    dsimp only at e
    split at e
    · exact mo_pressureOf_ok (d := d + 0) e
    · cases e) ?_
  refine px_o1 (fun a h q e => by
    dsimp only at e
    split at e
    · exact mo_isPerson_ok (d := d + 103) e
    · cases e) ?_
  refine px_o1 (fun a h q e => by
    dsimp only at e
    split at e
    · exact mo_isThing_ok (d := d + 103) e
    · cases e) ?_
  refine px_o1 (fun a h q e => by
    dsimp only at e
    split at e
    · exact mo_lay_ok (d := d + 104) e
    · cases e) ?_
  exact px_o0)
set_option maxRecDepth 200000 in
theorem mo_keeps_47_ok {d : Nat} : ∀ (h : pH) (q : Int32 × pH), mo_keeps_47 h = some q → px_G (d + 105 + 1) (pX_RX11, prog_13_method_75_code, 6, (some .int)) 47 [none, none, none, none, none, none] [] h q := by
  intro h q e
  exact px_blk_ok (d := d + 105) (M := (pX_RX11, prog_13_method_75_code, 6, (some .int))) (C := mo_keeps_orc) (code := mo_keeps_code) (ld := []) (kl := []) (mo_keeps_orc_ok) pX_ok_RX11 mo_keeps_code_ok (px_k0) 94 47 _ _ h q e
set_option maxRecDepth 200000 in
theorem mo_keeps_137_ok {d : Nat} : ∀ (x3 : Int32) (x4 : Int32) (h : pH) (q : Int32 × pH), mo_keeps_137 x3 x4 h = some q → px_G (d + 105 + 1) (pX_RX11, prog_13_method_75_code, 6, (some .int)) 137 [some (.inr (.inl 51)), none, none, some (.inl x3), some (.inl x4), none] [] h q := by
  intro x3 x4 h q e
  exact px_blk_ok (d := d + 105) (M := (pX_RX11, prog_13_method_75_code, 6, (some .int))) (C := mo_keeps_orc) (code := mo_keeps_code) (ld := []) (kl := []) (mo_keeps_orc_ok) pX_ok_RX11 mo_keeps_code_ok (px_k0) 94 137 _ _ h q e
set_option maxRecDepth 200000 in
theorem mo_keeps_66_ok {d : Nat} : ∀ (n : Nat) (x1 : Int32) (x2 : Int32) (x3 : Int32) (x4 : Int32) (h : pH) (q : Int32 × pH), mo_keeps_66 n x1 x2 x3 x4 h = some q → px_G (d + 105 + 1) (pX_RX11, prog_13_method_75_code, 6, (some .int)) 66 [some (.inr (.inl 51)), some (.inl x1), some (.inl x2), some (.inl x3), some (.inl x4), none] [] h q := by
  intro n
  induction n with
  | zero =>
    intro x1 x2 x3 x4 h q e
    cases e
  | succ n ih =>
    intro x1 x2 x3 x4 h q e
    exact px_blk_ok (d := d + 105) (M := (pX_RX11, prog_13_method_75_code, 6, (some .int))) (C := mo_keeps_orc) (code := mo_keeps_code) (ld := [66, 137]) (kl := [(66, fun ls st h => px_if (px_fit [61, 1, 1, 1, 1, 0] ls && px_fits [] st) (mo_keeps_66 n (px_gi ls 1) (px_gi ls 2) (px_gi ls 3) (px_gi ls 4) h)), (137, fun ls st h => px_if (px_fit [61, 0, 0, 1, 1, 0] ls && px_fits [] st) (mo_keeps_137 (px_gi ls 3) (px_gi ls 4) h))]) (mo_keeps_orc_ok) pX_ok_RX11 mo_keeps_code_ok (px_k1 (px_ko (ts := [61, 1, 1, 1, 1, 0]) (ss := []) fun ls st h q e => ih _ _ _ _ _ _ e) (px_k1 (px_ko (ts := [61, 0, 0, 1, 1, 0]) (ss := []) fun ls st h q e => mo_keeps_137_ok _ _ _ _ e) px_k0)) 94 66 _ _ h q e
set_option maxRecDepth 200000 in
theorem mo_keeps_ok {d : Nat} {x1 : Int32} {x2 : Int32} {h : pH} {q : Int32 × pH} (e : mo_keeps x1 x2 h = some q) : px_Con (d + 106) 247 [.inr (.inl 51), .inl x1, .inl x2] h q :=
  px_con (X := pX_RX11) (b := prog_13_method_75_code) (nL := 6) (rt := (some .int)) rfl rfl (Nat.le_of_ble_eq_true rfl) rfl (px_blk_ok (d := d + 105) (M := (pX_RX11, prog_13_method_75_code, 6, (some .int))) (C := mo_keeps_orc) (code := mo_keeps_code) (ld := [66, 47]) (kl := [(66, fun ls st h => px_if (px_fit [61, 1, 1, 1, 1, 0] ls && px_fits [] st) (mo_keeps_66 px_F (px_gi ls 1) (px_gi ls 2) (px_gi ls 3) (px_gi ls 4) h)), (47, fun ls st h => px_if (px_fit [0, 0, 0, 0, 0, 0] ls && px_fits [] st) (mo_keeps_47 h))]) (mo_keeps_orc_ok) pX_ok_RX11 mo_keeps_code_ok (px_k1 (px_ko (ts := [61, 1, 1, 1, 1, 0]) (ss := []) fun ls st h q e => mo_keeps_66_ok _ _ _ _ _ _ _ e) (px_k1 (px_ko (ts := [0, 0, 0, 0, 0, 0]) (ss := []) fun ls st h q e => mo_keeps_47_ok _ _ e) px_k0)) 94 0 _ _ _ q e)
