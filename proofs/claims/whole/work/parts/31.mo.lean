/-! the reference: the river, the house -/
/-! WordsUnsaidModel.river()I -/
noncomputable def mo_river_215 (x2 : Int32) (h : pH) : pR :=
  let h1 := px_w h 51 60 ((h 51 60) + (px_c 1))
  some (x2, h1)
noncomputable def mo_river_187 : Nat → Int32 → Int32 → pH → pR
  | 0, _, _, _ => none
  | n + 1, x2, x3, h =>
    if x2 ≤ x3 then
      let h1 := px_w h 51 35 (px_c 0)
      mo_river_215 x2 h1
    else
      px_if (px_ok 0 60 x3) <|
      px_if (px_ok 0 53 x3) <|
      let h2 := px_w h 53 x3.toNatClampNeg (h 60 x3.toNatClampNeg)
      mo_river_187 n x2 (x3 + px_c 1) h2
noncomputable def mo_river_185 (x2 : Int32) (h : pH) : pR :=
  mo_river_187 px_F x2 (px_c 0) h
noncomputable def mo_river_161 (x1 : Int32) (x2 : Int32) (h : pH) : pR :=
  px_bind (mo_fine h) fun z1 h2 =>
  if z1 = 0 then
    some ((px_c (-1)) - (h2 51 19), h2)
  else
    let h3 := px_w h2 51 1 x1
    let h4 := px_w h3 51 2 x2
    mo_river_185 x2 h4
noncomputable def mo_river_142 (x1 : Int32) (x2 : Int32) (h : pH) : pR :=
  if (h 51 16) ≤ (h 51 18) then
    mo_river_161 x1 x2 h
  else
    px_bind (mo_fault (h 51 18) h) fun _ h2 =>
    mo_river_161 x1 x2 h2
noncomputable def mo_river_129 (r63 : Int32 → Int32 → pH → pR) (x1 : Int32) (x2 : Int32) (s0 : Int32) (s2 : Int32) (h : pH) : pR :=
  px_bind (mo_number_ s0 (x1 - (px_c 1)) h) fun z1 h2 =>
  px_if (px_ok 0 60 s2) <|
  let h3 := px_w h2 60 s2.toNatClampNeg z1
  r63 x1 (x2 + px_c 1) h3
noncomputable def mo_river_63 : Nat → Int32 → Int32 → pH → pR
  | 0, _, _, _ => none
  | n + 1, x1, x2, h =>
    px_bind (mo_fine h) fun z1 h2 =>
    if z1 = 0 then
      mo_river_142 x1 x2 h2
    else
      px_bind (mo_here h2) fun z3 h4 =>
      if z3 = (px_c 44) then
        if x2 = (px_c 5) then
          px_bind (mo_fault (h4 51 18) h4) fun _ h6 =>
          mo_river_63 n x1 x2 h6
        else
          let h7 := px_w h4 51 18 ((h4 51 18) + (px_c 1))
          if x2 = 0 then
            mo_river_129 (mo_river_63 n) x1 x2 (px_c 1) x2 h7
          else
            px_if (px_ok 0 60 (x2 - (px_c 1))) <|
            mo_river_129 (mo_river_63 n) x1 x2 ((h7 60 (x2 - (px_c 1)).toNatClampNeg) + (px_c 1)) x2 h7
      else
        mo_river_142 x1 x2 h4
noncomputable def mo_river_26 : Nat → Int32 → pH → pR
  | 0, _, _ => none
  | n + 1, x1, h =>
    if (h 51 4) ≤ x1 then
      px_bind (mo_number_ (px_c 2) (px_c 60) h) fun z1 h2 =>
      mo_river_63 px_F z1 (px_c 0) h2
    else
      px_if (px_ok 0 52 x1) <|
      if (h 52 x1.toNatClampNeg) ≤ (px_c 1) then
        mo_river_26 n (x1 + px_c 1) h
      else
        some (px_c (-100), h)
noncomputable def mo_river_24 (h : pH) : pR :=
  mo_river_26 px_F (px_c 0) h
noncomputable def mo_river (h : pH) : pR :=
  let h1 := px_w h 51 14 (px_c 0)
  px_bind (mo_begin 58 (h1 51 11) (px_c 80) h1) fun _ h3 =>
  let h4 := px_w h3 51 11 (px_c 0)
  mo_river_24 h4
def mo_river_code : pCode := [(0, .aload_n 0, 1), (1, .iconst 0, 1), (2, .putfield 106, 3), (5, .aload_n 0, 1), (6, .aload_n 0, 1), (7, .getfield 32, 3), (10, .aload_n 0, 1), (11, .getfield 129, 3), (14, .bipush (80), 2), (16, .invokevirtual 171, 3), (19, .aload_n 0, 1), (20, .iconst 0, 1), (21, .putfield 129, 3), (24, .iconst 0, 1), (25, .istore_n 1, 1), (26, .iload_n 1, 1), (27, .aload_n 0, 1), (28, .getfield 112, 3), (31, .if_icmp .ge (22), 3), (34, .aload_n 0, 1), (35, .getfield 9, 3), (38, .iload_n 1, 1), (39, .iaload, 1), (40, .iconst 1, 1), (41, .if_icmp .le (6), 3), (44, .bipush (-100), 2), (46, .ireturn, 1), (47, .iinc 1 (1), 3), (50, .goto (-24), 3), (53, .aload_n 0, 1), (54, .iconst 2, 1), (55, .bipush (60), 2), (57, .invokevirtual 175, 3), (60, .istore_n 1, 1), (61, .iconst 0, 1), (62, .istore_n 2, 1), (63, .aload_n 0, 1), (64, .invokevirtual 147, 3), (67, .ifCond .eq (75), 3), (70, .aload_n 0, 1), (71, .invokevirtual 151, 3), (74, .bipush (44), 2), (76, .if_icmp .ne (66), 3), (79, .iload_n 2, 1), (80, .iconst 5, 1), (81, .if_icmp .ne (14), 3), (84, .aload_n 0, 1), (85, .aload_n 0, 1), (86, .getfield 141, 3), (89, .invokevirtual 159, 3), (92, .goto (-29), 3), (95, .aload_n 0, 1), (96, .dup, 1), (97, .getfield 141, 3), (100, .iconst 1, 1), (101, .iadd, 1), (102, .putfield 141, 3), (105, .aload_n 0, 1), (106, .getfield 39, 3), (109, .iload_n 2, 1), (110, .aload_n 0, 1), (111, .iload_n 2, 1), (112, .ifCond .ne (7), 3), (115, .iconst 1, 1), (116, .goto (13), 3), (119, .aload_n 0, 1), (120, .getfield 39, 3), (123, .iload_n 2, 1), (124, .iconst 1, 1), (125, .isub, 1), (126, .iaload, 1), (127, .iconst 1, 1), (128, .iadd, 1), (129, .iload_n 1, 1), (130, .iconst 1, 1), (131, .isub, 1), (132, .invokevirtual 175, 3), (135, .iastore, 1), (136, .iinc 2 (1), 3), (139, .goto (-76), 3), (142, .aload_n 0, 1), (143, .getfield 141, 3), (146, .aload_n 0, 1), (147, .getfield 135, 3), (150, .if_icmp .ge (11), 3), (153, .aload_n 0, 1), (154, .aload_n 0, 1), (155, .getfield 141, 3), (158, .invokevirtual 159, 3), (161, .aload_n 0, 1), (162, .invokevirtual 147, 3), (165, .ifCond .ne (10), 3), (168, .iconst (-1), 1), (169, .aload_n 0, 1), (170, .getfield 144, 3), (173, .isub, 1), (174, .ireturn, 1), (175, .aload_n 0, 1), (176, .iload_n 1, 1), (177, .putfield 13, 3), (180, .aload_n 0, 1), (181, .iload_n 2, 1), (182, .putfield 126, 3), (185, .iconst 0, 1), (186, .istore_n 3, 1), (187, .iload_n 3, 1), (188, .iload_n 2, 1), (189, .if_icmp .ge (21), 3), (192, .aload_n 0, 1), (193, .getfield 17, 3), (196, .iload_n 3, 1), (197, .aload_n 0, 1), (198, .getfield 39, 3), (201, .iload_n 3, 1), (202, .iaload, 1), (203, .iastore, 1), (204, .iinc 3 (1), 3), (207, .goto (-20), 3), (210, .aload_n 0, 1), (211, .iconst 0, 1), (212, .putfield 177, 3), (215, .aload_n 0, 1), (216, .dup, 1), (217, .getfield 180, 3), (220, .iconst 1, 1), (221, .iadd, 1), (222, .putfield 180, 3), (225, .iload_n 2, 1), (226, .ireturn, 1)]
set_option maxRecDepth 200000 in
theorem mo_river_code_ok : px_code prog_13_method_25_code mo_river_code = true := by decide +kernel
noncomputable def mo_river_orc : pC := px_orc [(189, fun a h => match a with
    | [.inr (.inl 51)] => mo_fine h
    | _ => none), (190, fun a h => match a with
    | [.inr (.inl 51), .inl v1] => mo_fault v1 h
    | _ => none), (195, fun a h => match a with
    | [.inr (.inl 51), .inl v1, .inl v2] => mo_number_ v1 v2 h
    | _ => none), (188, fun a h => match a with
    | [.inr (.inl 51)] => mo_here h
    | _ => none), (187, fun a h => match a with
    | [.inr (.inl 51), .inr (.inl v1), .inl v2, .inl v3] => mo_begin v1 v2 v3 h
    | _ => none)]
theorem mo_river_orc_ok {d : Nat} : px_Or (d + 5) (mo_river_orc) := px_orc_ok (by
  refine px_o1 (fun a h q e => by
    dsimp only at e
    split at e
    · exact mo_fine_ok (d := d + 4) e
    · cases e) ?_
  refine px_o1 (fun a h q e => by
    dsimp only at e
    split at e
    · exact mo_fault_ok (d := d + 3) e
    · cases e) ?_
  refine px_o1 (fun a h q e => by
    dsimp only at e
    split at e
    · exact mo_number__ok (d := d + 0) e
    · cases e) ?_
  refine px_o1 (fun a h q e => by
    dsimp only at e
    split at e
    · exact mo_here_ok (d := d + 4) e
    · cases e) ?_
  refine px_o1 (fun a h q e => by
    dsimp only at e
    split at e
    · exact mo_begin_ok (d := d + 4) e
    · cases e) ?_
  exact px_o0)
set_option maxRecDepth 200000 in
theorem mo_river_215_ok {d : Nat} : ∀ (x2 : Int32) (h : pH) (q : Int32 × pH), mo_river_215 x2 h = some q → px_G (d + 5 + 1) (pX_RX11, prog_13_method_25_code, 4, (some .int)) 215 [some (.inr (.inl 51)), none, some (.inl x2), none] [] h q := by
  intro x2 h q e
  exact px_blk_ok (d := d + 5) (M := (pX_RX11, prog_13_method_25_code, 4, (some .int))) (C := mo_river_orc) (code := mo_river_code) (ld := []) (kl := []) (mo_river_orc_ok) pX_ok_RX11 mo_river_code_ok (px_k0) 134 215 _ _ h q e
set_option maxRecDepth 200000 in
theorem mo_river_187_ok {d : Nat} : ∀ (n : Nat) (x2 : Int32) (x3 : Int32) (h : pH) (q : Int32 × pH), mo_river_187 n x2 x3 h = some q → px_G (d + 5 + 1) (pX_RX11, prog_13_method_25_code, 4, (some .int)) 187 [some (.inr (.inl 51)), none, some (.inl x2), some (.inl x3)] [] h q := by
  intro n
  induction n with
  | zero =>
    intro x2 x3 h q e
    cases e
  | succ n ih =>
    intro x2 x3 h q e
    exact px_blk_ok (d := d + 5) (M := (pX_RX11, prog_13_method_25_code, 4, (some .int))) (C := mo_river_orc) (code := mo_river_code) (ld := [187, 215]) (kl := [(187, fun ls st h => px_if (px_fit [61, 0, 1, 1] ls && px_fits [] st) (mo_river_187 n (px_gi ls 2) (px_gi ls 3) h)), (215, fun ls st h => px_if (px_fit [61, 0, 1, 0] ls && px_fits [] st) (mo_river_215 (px_gi ls 2) h))]) (mo_river_orc_ok) pX_ok_RX11 mo_river_code_ok (px_k1 (px_ko (ts := [61, 0, 1, 1]) (ss := []) fun ls st h q e => ih _ _ _ _ e) (px_k1 (px_ko (ts := [61, 0, 1, 0]) (ss := []) fun ls st h q e => mo_river_215_ok _ _ _ e) px_k0)) 134 187 _ _ h q e
set_option maxRecDepth 200000 in
theorem mo_river_185_ok {d : Nat} : ∀ (x2 : Int32) (h : pH) (q : Int32 × pH), mo_river_185 x2 h = some q → px_G (d + 5 + 1) (pX_RX11, prog_13_method_25_code, 4, (some .int)) 185 [some (.inr (.inl 51)), none, some (.inl x2), none] [] h q := by
  intro x2 h q e
  exact px_blk_ok (d := d + 5) (M := (pX_RX11, prog_13_method_25_code, 4, (some .int))) (C := mo_river_orc) (code := mo_river_code) (ld := [187]) (kl := [(187, fun ls st h => px_if (px_fit [61, 0, 1, 1] ls && px_fits [] st) (mo_river_187 px_F (px_gi ls 2) (px_gi ls 3) h))]) (mo_river_orc_ok) pX_ok_RX11 mo_river_code_ok (px_k1 (px_ko (ts := [61, 0, 1, 1]) (ss := []) fun ls st h q e => mo_river_187_ok _ _ _ _ _ e) px_k0) 134 185 _ _ h q e
set_option maxRecDepth 200000 in
theorem mo_river_161_ok {d : Nat} : ∀ (x1 : Int32) (x2 : Int32) (h : pH) (q : Int32 × pH), mo_river_161 x1 x2 h = some q → px_G (d + 5 + 1) (pX_RX11, prog_13_method_25_code, 4, (some .int)) 161 [some (.inr (.inl 51)), some (.inl x1), some (.inl x2), none] [] h q := by
  intro x1 x2 h q e
  exact px_blk_ok (d := d + 5) (M := (pX_RX11, prog_13_method_25_code, 4, (some .int))) (C := mo_river_orc) (code := mo_river_code) (ld := [185]) (kl := [(185, fun ls st h => px_if (px_fit [61, 0, 1, 0] ls && px_fits [] st) (mo_river_185 (px_gi ls 2) h))]) (mo_river_orc_ok) pX_ok_RX11 mo_river_code_ok (px_k1 (px_ko (ts := [61, 0, 1, 0]) (ss := []) fun ls st h q e => mo_river_185_ok _ _ _ e) px_k0) 134 161 _ _ h q e
set_option maxRecDepth 200000 in
theorem mo_river_142_ok {d : Nat} : ∀ (x1 : Int32) (x2 : Int32) (h : pH) (q : Int32 × pH), mo_river_142 x1 x2 h = some q → px_G (d + 5 + 1) (pX_RX11, prog_13_method_25_code, 4, (some .int)) 142 [some (.inr (.inl 51)), some (.inl x1), some (.inl x2), none] [] h q := by
  intro x1 x2 h q e
  exact px_blk_ok (d := d + 5) (M := (pX_RX11, prog_13_method_25_code, 4, (some .int))) (C := mo_river_orc) (code := mo_river_code) (ld := [161]) (kl := [(161, fun ls st h => px_if (px_fit [61, 1, 1, 0] ls && px_fits [] st) (mo_river_161 (px_gi ls 1) (px_gi ls 2) h))]) (mo_river_orc_ok) pX_ok_RX11 mo_river_code_ok (px_k1 (px_ko (ts := [61, 1, 1, 0]) (ss := []) fun ls st h q e => mo_river_161_ok _ _ _ _ e) px_k0) 134 142 _ _ h q e
set_option maxRecDepth 200000 in
theorem mo_river_129_ok {d : Nat} {r63 : Int32 → Int32 → pH → pR} (hr63 : ∀ (x1 : Int32) (x2 : Int32) (h : pH) (q : Int32 × pH), r63 x1 x2 h = some q → px_G (d + 5 + 1) (pX_RX11, prog_13_method_25_code, 4, (some .int)) 63 [some (.inr (.inl 51)), some (.inl x1), some (.inl x2), none] [] h q) : ∀ (x1 : Int32) (x2 : Int32) (s0 : Int32) (s2 : Int32) (h : pH) (q : Int32 × pH), mo_river_129 r63 x1 x2 s0 s2 h = some q → px_G (d + 5 + 1) (pX_RX11, prog_13_method_25_code, 4, (some .int)) 129 [some (.inr (.inl 51)), some (.inl x1), some (.inl x2), none] [.inl s0, .inr (.inl 51), .inl s2, .inr (.inl 60)] h q := by
  intro x1 x2 s0 s2 h q e
  exact px_blk_ok (d := d + 5) (M := (pX_RX11, prog_13_method_25_code, 4, (some .int))) (C := mo_river_orc) (code := mo_river_code) (ld := [63]) (kl := [(63, fun ls st h => px_if (px_fit [61, 1, 1, 0] ls && px_fits [] st) (r63 (px_gi ls 1) (px_gi ls 2) h))]) (mo_river_orc_ok) pX_ok_RX11 mo_river_code_ok (px_k1 (px_ko (ts := [61, 1, 1, 0]) (ss := []) fun ls st h q e => hr63 _ _ _ _ e) px_k0) 134 129 _ _ h q e
set_option maxRecDepth 200000 in
theorem mo_river_63_ok {d : Nat} : ∀ (n : Nat) (x1 : Int32) (x2 : Int32) (h : pH) (q : Int32 × pH), mo_river_63 n x1 x2 h = some q → px_G (d + 5 + 1) (pX_RX11, prog_13_method_25_code, 4, (some .int)) 63 [some (.inr (.inl 51)), some (.inl x1), some (.inl x2), none] [] h q := by
  intro n
  induction n with
  | zero =>
    intro x1 x2 h q e
    cases e
  | succ n ih =>
    intro x1 x2 h q e
    exact px_blk_ok (d := d + 5) (M := (pX_RX11, prog_13_method_25_code, 4, (some .int))) (C := mo_river_orc) (code := mo_river_code) (ld := [63, 129, 142]) (kl := [(63, fun ls st h => px_if (px_fit [61, 1, 1, 0] ls && px_fits [] st) (mo_river_63 n (px_gi ls 1) (px_gi ls 2) h)), (129, fun ls st h => px_if (px_fit [61, 1, 1, 0] ls && px_fits [1, 61, 1, 70] st) (mo_river_129 (mo_river_63 n) (px_gi ls 1) (px_gi ls 2) (px_si st 0) (px_si st 2) h)), (142, fun ls st h => px_if (px_fit [61, 1, 1, 0] ls && px_fits [] st) (mo_river_142 (px_gi ls 1) (px_gi ls 2) h))]) (mo_river_orc_ok) pX_ok_RX11 mo_river_code_ok (px_k1 (px_ko (ts := [61, 1, 1, 0]) (ss := []) fun ls st h q e => ih _ _ _ _ e) (px_k1 (px_ko (ts := [61, 1, 1, 0]) (ss := [1, 61, 1, 70]) fun ls st h q e => mo_river_129_ok ih _ _ _ _ _ _ e) (px_k1 (px_ko (ts := [61, 1, 1, 0]) (ss := []) fun ls st h q e => mo_river_142_ok _ _ _ _ e) px_k0))) 134 63 _ _ h q e
set_option maxRecDepth 200000 in
theorem mo_river_26_ok {d : Nat} : ∀ (n : Nat) (x1 : Int32) (h : pH) (q : Int32 × pH), mo_river_26 n x1 h = some q → px_G (d + 5 + 1) (pX_RX11, prog_13_method_25_code, 4, (some .int)) 26 [some (.inr (.inl 51)), some (.inl x1), none, none] [] h q := by
  intro n
  induction n with
  | zero =>
    intro x1 h q e
    cases e
  | succ n ih =>
    intro x1 h q e
    exact px_blk_ok (d := d + 5) (M := (pX_RX11, prog_13_method_25_code, 4, (some .int))) (C := mo_river_orc) (code := mo_river_code) (ld := [26, 63]) (kl := [(26, fun ls st h => px_if (px_fit [61, 1, 0, 0] ls && px_fits [] st) (mo_river_26 n (px_gi ls 1) h)), (63, fun ls st h => px_if (px_fit [61, 1, 1, 0] ls && px_fits [] st) (mo_river_63 px_F (px_gi ls 1) (px_gi ls 2) h))]) (mo_river_orc_ok) pX_ok_RX11 mo_river_code_ok (px_k1 (px_ko (ts := [61, 1, 0, 0]) (ss := []) fun ls st h q e => ih _ _ _ e) (px_k1 (px_ko (ts := [61, 1, 1, 0]) (ss := []) fun ls st h q e => mo_river_63_ok _ _ _ _ _ e) px_k0)) 134 26 _ _ h q e
set_option maxRecDepth 200000 in
theorem mo_river_24_ok {d : Nat} : ∀ (h : pH) (q : Int32 × pH), mo_river_24 h = some q → px_G (d + 5 + 1) (pX_RX11, prog_13_method_25_code, 4, (some .int)) 24 [some (.inr (.inl 51)), none, none, none] [] h q := by
  intro h q e
  exact px_blk_ok (d := d + 5) (M := (pX_RX11, prog_13_method_25_code, 4, (some .int))) (C := mo_river_orc) (code := mo_river_code) (ld := [26]) (kl := [(26, fun ls st h => px_if (px_fit [61, 1, 0, 0] ls && px_fits [] st) (mo_river_26 px_F (px_gi ls 1) h))]) (mo_river_orc_ok) pX_ok_RX11 mo_river_code_ok (px_k1 (px_ko (ts := [61, 1, 0, 0]) (ss := []) fun ls st h q e => mo_river_26_ok _ _ _ _ e) px_k0) 134 24 _ _ h q e
set_option maxRecDepth 200000 in
theorem mo_river_ok {d : Nat} {h : pH} {q : Int32 × pH} (e : mo_river h = some q) : px_Con (d + 6) 197 [.inr (.inl 51)] h q :=
  px_con (X := pX_RX11) (b := prog_13_method_25_code) (nL := 4) (rt := (some .int)) rfl rfl (Nat.le_of_ble_eq_true rfl) rfl (px_blk_ok (d := d + 5) (M := (pX_RX11, prog_13_method_25_code, 4, (some .int))) (C := mo_river_orc) (code := mo_river_code) (ld := [24]) (kl := [(24, fun ls st h => px_if (px_fit [61, 0, 0, 0] ls && px_fits [] st) (mo_river_24 h))]) (mo_river_orc_ok) pX_ok_RX11 mo_river_code_ok (px_k1 (px_ko (ts := [61, 0, 0, 0]) (ss := []) fun ls st h q e => mo_river_24_ok _ _ e) px_k0) 134 0 _ _ _ q e)
/-! WordsUnsaidModel.readLine()V -/
noncomputable def mo_readLine_251 (h : pH) : pR :=
  some (0, h)
noncomputable def mo_readLine_243 (h : pH) : pR :=
  px_bind (mo_fault (h 51 18) h) fun _ h2 =>
  mo_readLine_251 h2
noncomputable def mo_readLine_229 (s0 : Int32) (s1 : Int32) (h : pH) : pR :=
  px_if (px_ok 0 62 s1) <|
  let h1 := px_w h 62 s1.toNatClampNeg s0
  let h2 := px_w h1 51 24 ((h1 51 24) + (px_c 1))
  mo_readLine_251 h2
noncomputable def mo_readLine_196 (x1 : Int32) (x2 : Int32) (h : pH) : pR :=
  px_bind (mo_passes (px_c 62) h) fun z1 h2 =>
  if z1 = 0 then
    mo_readLine_229 (px_c (-1)) (x1 + (px_c 3)) h2
  else
    px_if (px_ok 0 62 x1) <|
    px_bind (mo_letter (px_c 97) x2 (h2 62 x1.toNatClampNeg) h2) fun z3 h4 =>
    mo_readLine_229 z3 (x1 + (px_c 3)) h4
noncomputable def mo_readLine_160 (x1 : Int32) (x2 : Int32) (h : pH) : pR :=
  px_bind (mo_number_ (px_c 1) (px_c 40) h) fun z1 h2 =>
  px_if (px_ok 0 62 (x1 + (px_c 1))) <|
  let h3 := px_w h2 62 (x1 + (px_c 1)).toNatClampNeg z1
  px_bind (mo_need (px_c 42) h3) fun _ h5 =>
  px_bind (mo_digit (px_c 0) (px_c 9) h5) fun z6 h7 =>
  px_if (px_ok 0 62 (x1 + (px_c 2))) <|
  let h8 := px_w h7 62 (x1 + (px_c 2)).toNatClampNeg z6
  mo_readLine_196 x1 x2 h8
noncomputable def mo_readLine_96 (h : pH) : pR :=
  px_bind (mo_here h) fun z1 h2 =>
  if z1 = (px_c 116) then
    if (px_c 10) ≤ ((h2 51 6) + (h2 51 24)) then
      mo_readLine_243 h2
    else
      let y1_3 := (px_c 4) * (h2 51 24)
      let y2_4 := (h2 51 4) + (h2 51 23)
      let h5 := px_w h2 51 18 ((h2 51 18) + (px_c 1))
      px_bind (mo_letter (px_c 97) y2_4 (px_c (-1)) h5) fun z6 h7 =>
      px_if (px_ok 0 62 y1_3) <|
      let h8 := px_w h7 62 y1_3.toNatClampNeg z6
      mo_readLine_160 y1_3 y2_4 h8
  else
    mo_readLine_243 h2
noncomputable def mo_readLine_82 (s0 : Int32) (s1 : Int32) (h : pH) : pR :=
  px_if (px_ok 0 61 s1) <|
  let h1 := px_w h 61 s1.toNatClampNeg s0
  let h2 := px_w h1 51 23 ((h1 51 23) + (px_c 1))
  mo_readLine_251 h2
noncomputable def mo_readLine_51 (h : pH) : pR :=
  px_bind (mo_passes (px_c 64) h) fun z1 h2 =>
  if z1 = 0 then
    mo_readLine_82 (px_c 0) (((px_c 2) * (h 51 23)) + (px_c 1)) h2
  else
    px_bind (mo_digit (px_c 0) (px_c 1) h2) fun z3 h4 =>
    mo_readLine_82 z3 (((px_c 2) * (h 51 23)) + (px_c 1)) h4
noncomputable def mo_readLine (h : pH) : pR :=
  px_bind (mo_here h) fun z1 h2 =>
  if z1 = (px_c 112) then
    if (px_c 6) ≤ ((h2 51 4) + (h2 51 23)) then
      mo_readLine_96 h2
    else
      let h3 := px_w h2 51 18 ((h2 51 18) + (px_c 1))
      px_bind (mo_number_ (px_c 1) (px_c 99) h3) fun z4 h5 =>
      px_if (px_ok 0 61 ((px_c 2) * (h3 51 23))) <|
      let h6 := px_w h5 61 ((px_c 2) * (h3 51 23)).toNatClampNeg z4
      mo_readLine_51 h6
  else
    mo_readLine_96 h2
def mo_readLine_code : pCode := [(0, .aload_n 0, 1), (1, .invokevirtual 151, 3), (4, .bipush (112), 2), (6, .if_icmp .ne (90), 3), (9, .aload_n 0, 1), (10, .getfield 112, 3), (13, .aload_n 0, 1), (14, .getfield 183, 3), (17, .iadd, 1), (18, .bipush (6), 2), (20, .if_icmp .ge (76), 3), (23, .aload_n 0, 1), (24, .dup, 1), (25, .getfield 141, 3), (28, .iconst 1, 1), (29, .iadd, 1), (30, .putfield 141, 3), (33, .aload_n 0, 1), (34, .getfield 42, 3), (37, .iconst 2, 1), (38, .aload_n 0, 1), (39, .getfield 183, 3), (42, .imul, 1), (43, .aload_n 0, 1), (44, .iconst 1, 1), (45, .bipush (99), 2), (47, .invokevirtual 175, 3), (50, .iastore, 1), (51, .aload_n 0, 1), (52, .getfield 42, 3), (55, .iconst 2, 1), (56, .aload_n 0, 1), (57, .getfield 183, 3), (60, .imul, 1), (61, .iconst 1, 1), (62, .iadd, 1), (63, .aload_n 0, 1), (64, .bipush (64), 2), (66, .invokevirtual 155, 3), (69, .ifCond .eq (12), 3), (72, .aload_n 0, 1), (73, .iconst 0, 1), (74, .iconst 1, 1), (75, .invokevirtual 163, 3), (78, .goto (4), 3), (81, .iconst 0, 1), (82, .iastore, 1), (83, .aload_n 0, 1), (84, .dup, 1), (85, .getfield 183, 3), (88, .iconst 1, 1), (89, .iadd, 1), (90, .putfield 183, 3), (93, .goto (158), 3), (96, .aload_n 0, 1), (97, .invokevirtual 151, 3), (100, .bipush (116), 2), (102, .if_icmp .ne (141), 3), (105, .aload_n 0, 1), (106, .getfield 119, 3), (109, .aload_n 0, 1), (110, .getfield 186, 3), (113, .iadd, 1), (114, .bipush (10), 2), (116, .if_icmp .ge (127), 3), (119, .iconst 4, 1), (120, .aload_n 0, 1), (121, .getfield 186, 3), (124, .imul, 1), (125, .istore_n 1, 1), (126, .aload_n 0, 1), (127, .getfield 112, 3), (130, .aload_n 0, 1), (131, .getfield 183, 3), (134, .iadd, 1), (135, .istore_n 2, 1), (136, .aload_n 0, 1), (137, .dup, 1), (138, .getfield 141, 3), (141, .iconst 1, 1), (142, .iadd, 1), (143, .putfield 141, 3), (146, .aload_n 0, 1), (147, .getfield 45, 3), (150, .iload_n 1, 1), (151, .aload_n 0, 1), (152, .bipush (97), 2), (154, .iload_n 2, 1), (155, .iconst (-1), 1), (156, .invokevirtual 189, 3), (159, .iastore, 1), (160, .aload_n 0, 1), (161, .getfield 45, 3), (164, .iload_n 1, 1), (165, .iconst 1, 1), (166, .iadd, 1), (167, .aload_n 0, 1), (168, .iconst 1, 1), (169, .bipush (40), 2), (171, .invokevirtual 175, 3), (174, .iastore, 1), (175, .aload_n 0, 1), (176, .bipush (42), 2), (178, .invokevirtual 193, 3), (181, .aload_n 0, 1), (182, .getfield 45, 3), (185, .iload_n 1, 1), (186, .iconst 2, 1), (187, .iadd, 1), (188, .aload_n 0, 1), (189, .iconst 0, 1), (190, .bipush (9), 2), (192, .invokevirtual 163, 3), (195, .iastore, 1), (196, .aload_n 0, 1), (197, .getfield 45, 3), (200, .iload_n 1, 1), (201, .iconst 3, 1), (202, .iadd, 1), (203, .aload_n 0, 1), (204, .bipush (62), 2), (206, .invokevirtual 155, 3), (209, .ifCond .eq (19), 3), (212, .aload_n 0, 1), (213, .bipush (97), 2), (215, .iload_n 2, 1), (216, .aload_n 0, 1), (217, .getfield 45, 3), (220, .iload_n 1, 1), (221, .iaload, 1), (222, .invokevirtual 189, 3), (225, .goto (4), 3), (228, .iconst (-1), 1), (229, .iastore, 1), (230, .aload_n 0, 1), (231, .dup, 1), (232, .getfield 186, 3), (235, .iconst 1, 1), (236, .iadd, 1), (237, .putfield 186, 3), (240, .goto (11), 3), (243, .aload_n 0, 1), (244, .aload_n 0, 1), (245, .getfield 141, 3), (248, .invokevirtual 159, 3), (251, .return_, 1)]
set_option maxRecDepth 200000 in
theorem mo_readLine_code_ok : px_code prog_13_method_26_code mo_readLine_code = true := by decide +kernel
noncomputable def mo_readLine_orc : pC := px_orc [(190, fun a h => match a with
    | [.inr (.inl 51), .inl v1] => mo_fault v1 h
    | _ => none), (191, fun a h => match a with
    | [.inr (.inl 51), .inl v1] => mo_passes v1 h
    | _ => none), (196, fun a h => match a with
    | [.inr (.inl 51), .inl v1, .inl v2, .inl v3] => mo_letter v1 v2 v3 h
    | _ => none), (195, fun a h => match a with
    | [.inr (.inl 51), .inl v1, .inl v2] => mo_number_ v1 v2 h
    | _ => none), (192, fun a h => match a with
    | [.inr (.inl 51), .inl v1] => mo_need v1 h
    | _ => none), (193, fun a h => match a with
    | [.inr (.inl 51), .inl v1, .inl v2] => mo_digit v1 v2 h
    | _ => none), (188, fun a h => match a with
    | [.inr (.inl 51)] => mo_here h
    | _ => none)]
theorem mo_readLine_orc_ok {d : Nat} : px_Or (d + 5) (mo_readLine_orc) := px_orc_ok (by
  refine px_o1 (fun a h q e => by
    dsimp only at e
    split at e
    · exact mo_fault_ok (d := d + 3) e
    · cases e) ?_
  refine px_o1 (fun a h q e => by
    dsimp only at e
    split at e
    · exact mo_passes_ok (d := d + 3) e
    · cases e) ?_
  refine px_o1 (fun a h q e => by
    dsimp only at e
    split at e
    · exact mo_letter_ok (d := d + 2) e
    · cases e) ?_
  refine px_o1 (fun a h q e => by
    dsimp only at e
    split at e
    · exact mo_number__ok (d := d + 0) e
    · cases e) ?_
  refine px_o1 (fun a h q e => by
    dsimp only at e
    split at e
    · exact mo_need_ok (d := d + 2) e
    · cases e) ?_
  refine px_o1 (fun a h q e => by
    dsimp only at e
    split at e
    · exact mo_digit_ok (d := d + 2) e
    · cases e) ?_
  refine px_o1 (fun a h q e => by
    dsimp only at e
    split at e
    · exact mo_here_ok (d := d + 4) e
    · cases e) ?_
  exact px_o0)
set_option maxRecDepth 200000 in
theorem mo_readLine_251_ok {d : Nat} : ∀ (h : pH) (q : Int32 × pH), mo_readLine_251 h = some q → px_G (d + 5 + 1) (pX_RX11, prog_13_method_26_code, 3, none) 251 [none, none, none] [] h q := by
  intro h q e
  exact px_blk_ok (d := d + 5) (M := (pX_RX11, prog_13_method_26_code, 3, none)) (C := mo_readLine_orc) (code := mo_readLine_code) (ld := []) (kl := []) (mo_readLine_orc_ok) pX_ok_RX11 mo_readLine_code_ok (px_k0) 151 251 _ _ h q e
set_option maxRecDepth 200000 in
theorem mo_readLine_243_ok {d : Nat} : ∀ (h : pH) (q : Int32 × pH), mo_readLine_243 h = some q → px_G (d + 5 + 1) (pX_RX11, prog_13_method_26_code, 3, none) 243 [some (.inr (.inl 51)), none, none] [] h q := by
  intro h q e
  exact px_blk_ok (d := d + 5) (M := (pX_RX11, prog_13_method_26_code, 3, none)) (C := mo_readLine_orc) (code := mo_readLine_code) (ld := [251]) (kl := [(251, fun ls st h => px_if (px_fit [0, 0, 0] ls && px_fits [] st) (mo_readLine_251 h))]) (mo_readLine_orc_ok) pX_ok_RX11 mo_readLine_code_ok (px_k1 (px_ko (ts := [0, 0, 0]) (ss := []) fun ls st h q e => mo_readLine_251_ok _ _ e) px_k0) 151 243 _ _ h q e
set_option maxRecDepth 200000 in
theorem mo_readLine_229_ok {d : Nat} : ∀ (s0 : Int32) (s1 : Int32) (h : pH) (q : Int32 × pH), mo_readLine_229 s0 s1 h = some q → px_G (d + 5 + 1) (pX_RX11, prog_13_method_26_code, 3, none) 229 [some (.inr (.inl 51)), none, none] [.inl s0, .inl s1, .inr (.inl 62)] h q := by
  intro s0 s1 h q e
  exact px_blk_ok (d := d + 5) (M := (pX_RX11, prog_13_method_26_code, 3, none)) (C := mo_readLine_orc) (code := mo_readLine_code) (ld := [251]) (kl := [(251, fun ls st h => px_if (px_fit [0, 0, 0] ls && px_fits [] st) (mo_readLine_251 h))]) (mo_readLine_orc_ok) pX_ok_RX11 mo_readLine_code_ok (px_k1 (px_ko (ts := [0, 0, 0]) (ss := []) fun ls st h q e => mo_readLine_251_ok _ _ e) px_k0) 151 229 _ _ h q e
set_option maxRecDepth 200000 in
theorem mo_readLine_196_ok {d : Nat} : ∀ (x1 : Int32) (x2 : Int32) (h : pH) (q : Int32 × pH), mo_readLine_196 x1 x2 h = some q → px_G (d + 5 + 1) (pX_RX11, prog_13_method_26_code, 3, none) 196 [some (.inr (.inl 51)), some (.inl x1), some (.inl x2)] [] h q := by
  intro x1 x2 h q e
  exact px_blk_ok (d := d + 5) (M := (pX_RX11, prog_13_method_26_code, 3, none)) (C := mo_readLine_orc) (code := mo_readLine_code) (ld := [229]) (kl := [(229, fun ls st h => px_if (px_fit [61, 0, 0] ls && px_fits [1, 1, 72] st) (mo_readLine_229 (px_si st 0) (px_si st 1) h))]) (mo_readLine_orc_ok) pX_ok_RX11 mo_readLine_code_ok (px_k1 (px_ko (ts := [61, 0, 0]) (ss := [1, 1, 72]) fun ls st h q e => mo_readLine_229_ok _ _ _ _ e) px_k0) 151 196 _ _ h q e
set_option maxRecDepth 200000 in
theorem mo_readLine_160_ok {d : Nat} : ∀ (x1 : Int32) (x2 : Int32) (h : pH) (q : Int32 × pH), mo_readLine_160 x1 x2 h = some q → px_G (d + 5 + 1) (pX_RX11, prog_13_method_26_code, 3, none) 160 [some (.inr (.inl 51)), some (.inl x1), some (.inl x2)] [] h q := by
  intro x1 x2 h q e
  exact px_blk_ok (d := d + 5) (M := (pX_RX11, prog_13_method_26_code, 3, none)) (C := mo_readLine_orc) (code := mo_readLine_code) (ld := [196]) (kl := [(196, fun ls st h => px_if (px_fit [61, 1, 1] ls && px_fits [] st) (mo_readLine_196 (px_gi ls 1) (px_gi ls 2) h))]) (mo_readLine_orc_ok) pX_ok_RX11 mo_readLine_code_ok (px_k1 (px_ko (ts := [61, 1, 1]) (ss := []) fun ls st h q e => mo_readLine_196_ok _ _ _ _ e) px_k0) 151 160 _ _ h q e
set_option maxRecDepth 200000 in
theorem mo_readLine_96_ok {d : Nat} : ∀ (h : pH) (q : Int32 × pH), mo_readLine_96 h = some q → px_G (d + 5 + 1) (pX_RX11, prog_13_method_26_code, 3, none) 96 [some (.inr (.inl 51)), none, none] [] h q := by
  intro h q e
  exact px_blk_ok (d := d + 5) (M := (pX_RX11, prog_13_method_26_code, 3, none)) (C := mo_readLine_orc) (code := mo_readLine_code) (ld := [160, 243]) (kl := [(160, fun ls st h => px_if (px_fit [61, 1, 1] ls && px_fits [] st) (mo_readLine_160 (px_gi ls 1) (px_gi ls 2) h)), (243, fun ls st h => px_if (px_fit [61, 0, 0] ls && px_fits [] st) (mo_readLine_243 h))]) (mo_readLine_orc_ok) pX_ok_RX11 mo_readLine_code_ok (px_k1 (px_ko (ts := [61, 1, 1]) (ss := []) fun ls st h q e => mo_readLine_160_ok _ _ _ _ e) (px_k1 (px_ko (ts := [61, 0, 0]) (ss := []) fun ls st h q e => mo_readLine_243_ok _ _ e) px_k0)) 151 96 _ _ h q e
set_option maxRecDepth 200000 in
theorem mo_readLine_82_ok {d : Nat} : ∀ (s0 : Int32) (s1 : Int32) (h : pH) (q : Int32 × pH), mo_readLine_82 s0 s1 h = some q → px_G (d + 5 + 1) (pX_RX11, prog_13_method_26_code, 3, none) 82 [some (.inr (.inl 51)), none, none] [.inl s0, .inl s1, .inr (.inl 61)] h q := by
  intro s0 s1 h q e
  exact px_blk_ok (d := d + 5) (M := (pX_RX11, prog_13_method_26_code, 3, none)) (C := mo_readLine_orc) (code := mo_readLine_code) (ld := [251]) (kl := [(251, fun ls st h => px_if (px_fit [0, 0, 0] ls && px_fits [] st) (mo_readLine_251 h))]) (mo_readLine_orc_ok) pX_ok_RX11 mo_readLine_code_ok (px_k1 (px_ko (ts := [0, 0, 0]) (ss := []) fun ls st h q e => mo_readLine_251_ok _ _ e) px_k0) 151 82 _ _ h q e
set_option maxRecDepth 200000 in
theorem mo_readLine_51_ok {d : Nat} : ∀ (h : pH) (q : Int32 × pH), mo_readLine_51 h = some q → px_G (d + 5 + 1) (pX_RX11, prog_13_method_26_code, 3, none) 51 [some (.inr (.inl 51)), none, none] [] h q := by
  intro h q e
  exact px_blk_ok (d := d + 5) (M := (pX_RX11, prog_13_method_26_code, 3, none)) (C := mo_readLine_orc) (code := mo_readLine_code) (ld := [82]) (kl := [(82, fun ls st h => px_if (px_fit [61, 0, 0] ls && px_fits [1, 1, 71] st) (mo_readLine_82 (px_si st 0) (px_si st 1) h))]) (mo_readLine_orc_ok) pX_ok_RX11 mo_readLine_code_ok (px_k1 (px_ko (ts := [61, 0, 0]) (ss := [1, 1, 71]) fun ls st h q e => mo_readLine_82_ok _ _ _ _ e) px_k0) 151 51 _ _ h q e
set_option maxRecDepth 200000 in
theorem mo_readLine_ok {d : Nat} {h : pH} {q : Int32 × pH} (e : mo_readLine h = some q) : px_Con (d + 6) 198 [.inr (.inl 51)] h q :=
  px_con (X := pX_RX11) (b := prog_13_method_26_code) (nL := 3) (rt := none) rfl rfl (Nat.le_of_ble_eq_true rfl) rfl (px_blk_ok (d := d + 5) (M := (pX_RX11, prog_13_method_26_code, 3, none)) (C := mo_readLine_orc) (code := mo_readLine_code) (ld := [51, 96]) (kl := [(51, fun ls st h => px_if (px_fit [61, 0, 0] ls && px_fits [] st) (mo_readLine_51 h)), (96, fun ls st h => px_if (px_fit [61, 0, 0] ls && px_fits [] st) (mo_readLine_96 h))]) (mo_readLine_orc_ok) pX_ok_RX11 mo_readLine_code_ok (px_k1 (px_ko (ts := [61, 0, 0]) (ss := []) fun ls st h q e => mo_readLine_51_ok _ _ e) (px_k1 (px_ko (ts := [61, 0, 0]) (ss := []) fun ls st h q e => mo_readLine_96_ok _ _ e) px_k0)) 151 0 _ _ _ q e)
/-! WordsUnsaidModel.house()I -/
noncomputable def mo_house_353 (h : pH) : pR :=
  some ((h 51 23) + (h 51 24), h)
noncomputable def mo_house_332 (r180 : Int32 → pH → pR) (x2 : Int32) (h : pH) : pR :=
  r180 (x2 + px_c 1) h
noncomputable def mo_house_300 (r180 : Int32 → pH → pR) (x2 : Int32) (h : pH) : pR :=
  px_if (px_ok 0 62 ((px_c 4) * x2)) <|
  px_if (px_ok 0 52 ((px_c 42) + (h 51 6))) <|
  let h1 := px_w h 52 ((px_c 42) + (h 51 6)).toNatClampNeg ((px_c 1) <<< ((h 62 ((px_c 4) * x2).toNatClampNeg) &&& 31))
  let h2 := px_w h1 51 6 ((h1 51 6) + (px_c 1))
  mo_house_332 r180 x2 h2
noncomputable def mo_house_267 (r180 : Int32 → pH → pR) (x2 : Int32) (h : pH) : pR :=
  px_if (px_ok 0 52 ((px_c 22) + (h 51 6))) <|
  let h1 := px_w h 52 ((px_c 22) + (h 51 6)).toNatClampNeg (px_c 0)
  px_if (px_ok 0 62 ((px_c 4) * x2)) <|
  px_if (px_ok 0 52 ((px_c 32) + (h1 51 6))) <|
  let h2 := px_w h1 52 ((px_c 32) + (h1 51 6)).toNatClampNeg (h1 62 ((px_c 4) * x2).toNatClampNeg)
  mo_house_300 r180 x2 h2
noncomputable def mo_house_226 (r180 : Int32 → pH → pR) (x2 : Int32) (h : pH) : pR :=
  px_if (px_ok 0 62 (((px_c 4) * x2) + (px_c 3))) <|
  px_if (px_ok 0 57 (h 51 6)) <|
  let h1 := px_w h 57 (h 51 6).toNatClampNeg (h 62 (((px_c 4) * x2) + (px_c 3)).toNatClampNeg)
  px_if (px_ok 0 62 (((px_c 4) * x2) + (px_c 1))) <|
  px_if (px_ok 0 52 ((px_c 12) + (h1 51 6))) <|
  let h2 := px_w h1 52 ((px_c 12) + (h1 51 6)).toNatClampNeg (h1 62 (((px_c 4) * x2) + (px_c 1)).toNatClampNeg)
  mo_house_267 r180 x2 h2
noncomputable def mo_house_180 : Nat → Int32 → pH → pR
  | 0, _, _ => none
  | n + 1, x2, h =>
    if (h 51 24) ≤ x2 then
      let h1 := px_w h 51 35 (px_c 0)
      let h2 := px_w h1 51 60 ((h1 51 60) + (px_c 1))
      mo_house_353 h2
    else
      px_if (px_ok 0 62 (((px_c 4) * x2) + (px_c 1))) <|
      px_if (px_ok 0 55 (h 51 6)) <|
      let h3 := px_w h 55 (h 51 6).toNatClampNeg (h 62 (((px_c 4) * x2) + (px_c 1)).toNatClampNeg)
      px_if (px_ok 0 62 (((px_c 4) * x2) + (px_c 2))) <|
      px_if (px_ok 0 56 (h3 51 6)) <|
      let h4 := px_w h3 56 (h3 51 6).toNatClampNeg (h3 62 (((px_c 4) * x2) + (px_c 2)).toNatClampNeg)
      mo_house_226 (mo_house_180 n) x2 h4
noncomputable def mo_house_172 (r105 : Int32 → pH → pR) (x2 : Int32) (h : pH) : pR :=
  r105 (x2 + px_c 1) h
noncomputable def mo_house_149 (r105 : Int32 → pH → pR) (x2 : Int32) (h : pH) : pR :=
  px_if (px_ok 0 52 ((px_c 6) + (h 51 4))) <|
  let h1 := px_w h 52 ((px_c 6) + (h 51 4)).toNatClampNeg (px_c 5)
  let h2 := px_w h1 51 4 ((h1 51 4) + (px_c 1))
  mo_house_172 r105 x2 h2
noncomputable def mo_house_105 : Nat → Int32 → pH → pR
  | 0, _, _ => none
  | n + 1, x2, h =>
    if (h 51 23) ≤ x2 then
      mo_house_180 px_F (px_c 0) h
    else
      px_if (px_ok 0 61 ((px_c 2) * x2)) <|
      px_if (px_ok 0 54 (h 51 4)) <|
      let h1 := px_w h 54 (h 51 4).toNatClampNeg (h 61 ((px_c 2) * x2).toNatClampNeg)
      px_if (px_ok 0 61 (((px_c 2) * x2) + (px_c 1))) <|
      px_if (px_ok 0 52 (h1 51 4)) <|
      let h2 := px_w h1 52 (h1 51 4).toNatClampNeg (h1 61 (((px_c 2) * x2) + (px_c 1)).toNatClampNeg)
      mo_house_149 (mo_house_105 n) x2 h2
noncomputable def mo_house_89 (h : pH) : pR :=
  px_bind (mo_fine h) fun z1 h2 =>
  if z1 = 0 then
    some ((px_c (-1)) - (h2 51 19), h2)
  else
    mo_house_105 px_F (px_c 0) h2
noncomputable def mo_house_70 (h : pH) : pR :=
  if (h 51 16) ≤ (h 51 18) then
    mo_house_89 h
  else
    px_bind (mo_fault (h 51 18) h) fun _ h2 =>
    mo_house_89 h2
noncomputable def mo_house_45 : Nat → Int32 → pH → pR
  | 0, _, _ => none
  | n + 1, x1, h =>
    if x1 = 0 then
      mo_house_70 h
    else
      px_bind (mo_fine h) fun z1 h2 =>
      if z1 = 0 then
        mo_house_70 h2
      else
        px_bind (mo_readLine h2) fun _ h4 =>
        px_bind (mo_passes (px_c 59) h4) fun z5 h6 =>
        mo_house_45 n z5 h6
noncomputable def mo_house_43 (h : pH) : pR :=
  mo_house_45 px_F (px_c 1) h
noncomputable def mo_house_24 (h : pH) : pR :=
  if (h 51 16) = 0 then
    some (px_c 0, h)
  else
    let h1 := px_w h 51 23 (px_c 0)
    let h2 := px_w h1 51 24 (px_c 0)
    mo_house_43 h2
noncomputable def mo_house (h : pH) : pR :=
  let h1 := px_w h 51 14 (px_c 0)
  px_bind (mo_begin 58 (h1 51 11) (px_c 76) h1) fun _ h3 =>
  let h4 := px_w h3 51 11 (px_c 0)
  mo_house_24 h4
def mo_house_code : pCode := [(0, .aload_n 0, 1), (1, .iconst 0, 1), (2, .putfield 106, 3), (5, .aload_n 0, 1), (6, .aload_n 0, 1), (7, .getfield 32, 3), (10, .aload_n 0, 1), (11, .getfield 129, 3), (14, .bipush (76), 2), (16, .invokevirtual 171, 3), (19, .aload_n 0, 1), (20, .iconst 0, 1), (21, .putfield 129, 3), (24, .aload_n 0, 1), (25, .getfield 135, 3), (28, .ifCond .ne (5), 3), (31, .iconst 0, 1), (32, .ireturn, 1), (33, .aload_n 0, 1), (34, .iconst 0, 1), (35, .putfield 183, 3), (38, .aload_n 0, 1), (39, .iconst 0, 1), (40, .putfield 186, 3), (43, .iconst 1, 1), (44, .istore_n 1, 1), (45, .iload_n 1, 1), (46, .ifCond .eq (24), 3), (49, .aload_n 0, 1), (50, .invokevirtual 147, 3), (53, .ifCond .eq (17), 3), (56, .aload_n 0, 1), (57, .invokevirtual 197, 3), (60, .aload_n 0, 1), (61, .bipush (59), 2), (63, .invokevirtual 155, 3), (66, .istore_n 1, 1), (67, .goto (-22), 3), (70, .aload_n 0, 1), (71, .getfield 141, 3), (74, .aload_n 0, 1), (75, .getfield 135, 3), (78, .if_icmp .ge (11), 3), (81, .aload_n 0, 1), (82, .aload_n 0, 1), (83, .getfield 141, 3), (86, .invokevirtual 159, 3), (89, .aload_n 0, 1), (90, .invokevirtual 147, 3), (93, .ifCond .ne (10), 3), (96, .iconst (-1), 1), (97, .aload_n 0, 1), (98, .getfield 144, 3), (101, .isub, 1), (102, .ireturn, 1), (103, .iconst 0, 1), (104, .istore_n 2, 1), (105, .iload_n 2, 1), (106, .aload_n 0, 1), (107, .getfield 183, 3), (110, .if_icmp .ge (68), 3), (113, .aload_n 0, 1), (114, .getfield 20, 3), (117, .aload_n 0, 1), (118, .getfield 112, 3), (121, .aload_n 0, 1), (122, .getfield 42, 3), (125, .iconst 2, 1), (126, .iload_n 2, 1), (127, .imul, 1), (128, .iaload, 1), (129, .iastore, 1), (130, .aload_n 0, 1), (131, .getfield 9, 3), (134, .aload_n 0, 1), (135, .getfield 112, 3), (138, .aload_n 0, 1), (139, .getfield 42, 3), (142, .iconst 2, 1), (143, .iload_n 2, 1), (144, .imul, 1), (145, .iconst 1, 1), (146, .iadd, 1), (147, .iaload, 1), (148, .iastore, 1), (149, .aload_n 0, 1), (150, .getfield 9, 3), (153, .bipush (6), 2), (155, .aload_n 0, 1), (156, .getfield 112, 3), (159, .iadd, 1), (160, .iconst 5, 1), (161, .iastore, 1), (162, .aload_n 0, 1), (163, .dup, 1), (164, .getfield 112, 3), (167, .iconst 1, 1), (168, .iadd, 1), (169, .putfield 112, 3), (172, .iinc 2 (1), 3), (175, .goto (-70), 3), (178, .iconst 0, 1), (179, .istore_n 2, 1), (180, .iload_n 2, 1), (181, .aload_n 0, 1), (182, .getfield 186, 3), (185, .if_icmp .ge (153), 3), (188, .aload_n 0, 1), (189, .getfield 23, 3), (192, .aload_n 0, 1), (193, .getfield 119, 3), (196, .aload_n 0, 1), (197, .getfield 45, 3), (200, .iconst 4, 1), (201, .iload_n 2, 1), (202, .imul, 1), (203, .iconst 1, 1), (204, .iadd, 1), (205, .iaload, 1), (206, .iastore, 1), (207, .aload_n 0, 1), (208, .getfield 26, 3), (211, .aload_n 0, 1), (212, .getfield 119, 3), (215, .aload_n 0, 1), (216, .getfield 45, 3), (219, .iconst 4, 1), (220, .iload_n 2, 1), (221, .imul, 1), (222, .iconst 2, 1), (223, .iadd, 1), (224, .iaload, 1), (225, .iastore, 1), (226, .aload_n 0, 1), (227, .getfield 29, 3), (230, .aload_n 0, 1), (231, .getfield 119, 3), (234, .aload_n 0, 1), (235, .getfield 45, 3), (238, .iconst 4, 1), (239, .iload_n 2, 1), (240, .imul, 1), (241, .iconst 3, 1), (242, .iadd, 1), (243, .iaload, 1), (244, .iastore, 1), (245, .aload_n 0, 1), (246, .getfield 9, 3), (249, .bipush (12), 2), (251, .aload_n 0, 1), (252, .getfield 119, 3), (255, .iadd, 1), (256, .aload_n 0, 1), (257, .getfield 45, 3), (260, .iconst 4, 1), (261, .iload_n 2, 1), (262, .imul, 1), (263, .iconst 1, 1), (264, .iadd, 1), (265, .iaload, 1), (266, .iastore, 1), (267, .aload_n 0, 1), (268, .getfield 9, 3), (271, .bipush (22), 2), (273, .aload_n 0, 1), (274, .getfield 119, 3), (277, .iadd, 1), (278, .iconst 0, 1), (279, .iastore, 1), (280, .aload_n 0, 1), (281, .getfield 9, 3), (284, .bipush (32), 2), (286, .aload_n 0, 1), (287, .getfield 119, 3), (290, .iadd, 1), (291, .aload_n 0, 1), (292, .getfield 45, 3), (295, .iconst 4, 1), (296, .iload_n 2, 1), (297, .imul, 1), (298, .iaload, 1), (299, .iastore, 1), (300, .aload_n 0, 1), (301, .getfield 9, 3), (304, .bipush (42), 2), (306, .aload_n 0, 1), (307, .getfield 119, 3), (310, .iadd, 1), (311, .iconst 1, 1), (312, .aload_n 0, 1), (313, .getfield 45, 3), (316, .iconst 4, 1), (317, .iload_n 2, 1), (318, .imul, 1), (319, .iaload, 1), (320, .ishl, 1), (321, .iastore, 1), (322, .aload_n 0, 1), (323, .dup, 1), (324, .getfield 119, 3), (327, .iconst 1, 1), (328, .iadd, 1), (329, .putfield 119, 3), (332, .iinc 2 (1), 3), (335, .goto (-155), 3), (338, .aload_n 0, 1), (339, .iconst 0, 1), (340, .putfield 177, 3), (343, .aload_n 0, 1), (344, .dup, 1), (345, .getfield 180, 3), (348, .iconst 1, 1), (349, .iadd, 1), (350, .putfield 180, 3), (353, .aload_n 0, 1), (354, .getfield 183, 3), (357, .aload_n 0, 1), (358, .getfield 186, 3), (361, .iadd, 1), (362, .ireturn, 1)]
set_option maxRecDepth 200000 in
theorem mo_house_code_ok : px_code prog_13_method_27_code mo_house_code = true := by decide +kernel
noncomputable def mo_house_orc : pC := px_orc [(189, fun a h => match a with
    | [.inr (.inl 51)] => mo_fine h
    | _ => none), (190, fun a h => match a with
    | [.inr (.inl 51), .inl v1] => mo_fault v1 h
    | _ => none), (198, fun a h => match a with
    | [.inr (.inl 51)] => mo_readLine h
    | _ => none), (191, fun a h => match a with
    | [.inr (.inl 51), .inl v1] => mo_passes v1 h
    | _ => none), (187, fun a h => match a with
    | [.inr (.inl 51), .inr (.inl v1), .inl v2, .inl v3] => mo_begin v1 v2 v3 h
    | _ => none)]
theorem mo_house_orc_ok {d : Nat} : px_Or (d + 6) (mo_house_orc) := px_orc_ok (by
  refine px_o1 (fun a h q e => by
    dsimp only at e
    split at e
    · exact mo_fine_ok (d := d + 5) e
    · cases e) ?_
  refine px_o1 (fun a h q e => by
    dsimp only at e
    split at e
    · exact mo_fault_ok (d := d + 4) e
    · cases e) ?_
  refine px_o1 (fun a h q e => by
    dsimp only at e
    split at e
    · exact mo_readLine_ok (d := d + 0) e
    · cases e) ?_
  refine px_o1 (fun a h q e => by
    dsimp only at e
    split at e
    · exact mo_passes_ok (d := d + 4) e
    · cases e) ?_
  refine px_o1 (fun a h q e => by
    dsimp only at e
    split at e
    · exact mo_begin_ok (d := d + 5) e
    · cases e) ?_
  exact px_o0)
set_option maxRecDepth 200000 in
theorem mo_house_353_ok {d : Nat} : ∀ (h : pH) (q : Int32 × pH), mo_house_353 h = some q → px_G (d + 6 + 1) (pX_RX11, prog_13_method_27_code, 3, (some .int)) 353 [some (.inr (.inl 51)), none, none] [] h q := by
  intro h q e
  exact px_blk_ok (d := d + 6) (M := (pX_RX11, prog_13_method_27_code, 3, (some .int))) (C := mo_house_orc) (code := mo_house_code) (ld := []) (kl := []) (mo_house_orc_ok) pX_ok_RX11 mo_house_code_ok (px_k0) 225 353 _ _ h q e
set_option maxRecDepth 200000 in
theorem mo_house_332_ok {d : Nat} {r180 : Int32 → pH → pR} (hr180 : ∀ (x2 : Int32) (h : pH) (q : Int32 × pH), r180 x2 h = some q → px_G (d + 6 + 1) (pX_RX11, prog_13_method_27_code, 3, (some .int)) 180 [some (.inr (.inl 51)), none, some (.inl x2)] [] h q) : ∀ (x2 : Int32) (h : pH) (q : Int32 × pH), mo_house_332 r180 x2 h = some q → px_G (d + 6 + 1) (pX_RX11, prog_13_method_27_code, 3, (some .int)) 332 [some (.inr (.inl 51)), none, some (.inl x2)] [] h q := by
  intro x2 h q e
  exact px_blk_ok (d := d + 6) (M := (pX_RX11, prog_13_method_27_code, 3, (some .int))) (C := mo_house_orc) (code := mo_house_code) (ld := [180]) (kl := [(180, fun ls st h => px_if (px_fit [61, 0, 1] ls && px_fits [] st) (r180 (px_gi ls 2) h))]) (mo_house_orc_ok) pX_ok_RX11 mo_house_code_ok (px_k1 (px_ko (ts := [61, 0, 1]) (ss := []) fun ls st h q e => hr180 _ _ _ e) px_k0) 225 332 _ _ h q e
set_option maxRecDepth 200000 in
theorem mo_house_300_ok {d : Nat} {r180 : Int32 → pH → pR} (hr180 : ∀ (x2 : Int32) (h : pH) (q : Int32 × pH), r180 x2 h = some q → px_G (d + 6 + 1) (pX_RX11, prog_13_method_27_code, 3, (some .int)) 180 [some (.inr (.inl 51)), none, some (.inl x2)] [] h q) : ∀ (x2 : Int32) (h : pH) (q : Int32 × pH), mo_house_300 r180 x2 h = some q → px_G (d + 6 + 1) (pX_RX11, prog_13_method_27_code, 3, (some .int)) 300 [some (.inr (.inl 51)), none, some (.inl x2)] [] h q := by
  intro x2 h q e
  exact px_blk_ok (d := d + 6) (M := (pX_RX11, prog_13_method_27_code, 3, (some .int))) (C := mo_house_orc) (code := mo_house_code) (ld := [332]) (kl := [(332, fun ls st h => px_if (px_fit [61, 0, 1] ls && px_fits [] st) (mo_house_332 r180 (px_gi ls 2) h))]) (mo_house_orc_ok) pX_ok_RX11 mo_house_code_ok (px_k1 (px_ko (ts := [61, 0, 1]) (ss := []) fun ls st h q e => mo_house_332_ok hr180 _ _ _ e) px_k0) 225 300 _ _ h q e
set_option maxRecDepth 200000 in
theorem mo_house_267_ok {d : Nat} {r180 : Int32 → pH → pR} (hr180 : ∀ (x2 : Int32) (h : pH) (q : Int32 × pH), r180 x2 h = some q → px_G (d + 6 + 1) (pX_RX11, prog_13_method_27_code, 3, (some .int)) 180 [some (.inr (.inl 51)), none, some (.inl x2)] [] h q) : ∀ (x2 : Int32) (h : pH) (q : Int32 × pH), mo_house_267 r180 x2 h = some q → px_G (d + 6 + 1) (pX_RX11, prog_13_method_27_code, 3, (some .int)) 267 [some (.inr (.inl 51)), none, some (.inl x2)] [] h q := by
  intro x2 h q e
  exact px_blk_ok (d := d + 6) (M := (pX_RX11, prog_13_method_27_code, 3, (some .int))) (C := mo_house_orc) (code := mo_house_code) (ld := [300]) (kl := [(300, fun ls st h => px_if (px_fit [61, 0, 1] ls && px_fits [] st) (mo_house_300 r180 (px_gi ls 2) h))]) (mo_house_orc_ok) pX_ok_RX11 mo_house_code_ok (px_k1 (px_ko (ts := [61, 0, 1]) (ss := []) fun ls st h q e => mo_house_300_ok hr180 _ _ _ e) px_k0) 225 267 _ _ h q e
set_option maxRecDepth 200000 in
theorem mo_house_226_ok {d : Nat} {r180 : Int32 → pH → pR} (hr180 : ∀ (x2 : Int32) (h : pH) (q : Int32 × pH), r180 x2 h = some q → px_G (d + 6 + 1) (pX_RX11, prog_13_method_27_code, 3, (some .int)) 180 [some (.inr (.inl 51)), none, some (.inl x2)] [] h q) : ∀ (x2 : Int32) (h : pH) (q : Int32 × pH), mo_house_226 r180 x2 h = some q → px_G (d + 6 + 1) (pX_RX11, prog_13_method_27_code, 3, (some .int)) 226 [some (.inr (.inl 51)), none, some (.inl x2)] [] h q := by
  intro x2 h q e
  exact px_blk_ok (d := d + 6) (M := (pX_RX11, prog_13_method_27_code, 3, (some .int))) (C := mo_house_orc) (code := mo_house_code) (ld := [267]) (kl := [(267, fun ls st h => px_if (px_fit [61, 0, 1] ls && px_fits [] st) (mo_house_267 r180 (px_gi ls 2) h))]) (mo_house_orc_ok) pX_ok_RX11 mo_house_code_ok (px_k1 (px_ko (ts := [61, 0, 1]) (ss := []) fun ls st h q e => mo_house_267_ok hr180 _ _ _ e) px_k0) 225 226 _ _ h q e
set_option maxRecDepth 200000 in
theorem mo_house_180_ok {d : Nat} : ∀ (n : Nat) (x2 : Int32) (h : pH) (q : Int32 × pH), mo_house_180 n x2 h = some q → px_G (d + 6 + 1) (pX_RX11, prog_13_method_27_code, 3, (some .int)) 180 [some (.inr (.inl 51)), none, some (.inl x2)] [] h q := by
  intro n
  induction n with
  | zero =>
    intro x2 h q e
    cases e
  | succ n ih =>
    intro x2 h q e
    exact px_blk_ok (d := d + 6) (M := (pX_RX11, prog_13_method_27_code, 3, (some .int))) (C := mo_house_orc) (code := mo_house_code) (ld := [226, 353]) (kl := [(226, fun ls st h => px_if (px_fit [61, 0, 1] ls && px_fits [] st) (mo_house_226 (mo_house_180 n) (px_gi ls 2) h)), (353, fun ls st h => px_if (px_fit [61, 0, 0] ls && px_fits [] st) (mo_house_353 h))]) (mo_house_orc_ok) pX_ok_RX11 mo_house_code_ok (px_k1 (px_ko (ts := [61, 0, 1]) (ss := []) fun ls st h q e => mo_house_226_ok ih _ _ _ e) (px_k1 (px_ko (ts := [61, 0, 0]) (ss := []) fun ls st h q e => mo_house_353_ok _ _ e) px_k0)) 225 180 _ _ h q e
set_option maxRecDepth 200000 in
theorem mo_house_172_ok {d : Nat} {r105 : Int32 → pH → pR} (hr105 : ∀ (x2 : Int32) (h : pH) (q : Int32 × pH), r105 x2 h = some q → px_G (d + 6 + 1) (pX_RX11, prog_13_method_27_code, 3, (some .int)) 105 [some (.inr (.inl 51)), none, some (.inl x2)] [] h q) : ∀ (x2 : Int32) (h : pH) (q : Int32 × pH), mo_house_172 r105 x2 h = some q → px_G (d + 6 + 1) (pX_RX11, prog_13_method_27_code, 3, (some .int)) 172 [some (.inr (.inl 51)), none, some (.inl x2)] [] h q := by
  intro x2 h q e
  exact px_blk_ok (d := d + 6) (M := (pX_RX11, prog_13_method_27_code, 3, (some .int))) (C := mo_house_orc) (code := mo_house_code) (ld := [105]) (kl := [(105, fun ls st h => px_if (px_fit [61, 0, 1] ls && px_fits [] st) (r105 (px_gi ls 2) h))]) (mo_house_orc_ok) pX_ok_RX11 mo_house_code_ok (px_k1 (px_ko (ts := [61, 0, 1]) (ss := []) fun ls st h q e => hr105 _ _ _ e) px_k0) 225 172 _ _ h q e
set_option maxRecDepth 200000 in
theorem mo_house_149_ok {d : Nat} {r105 : Int32 → pH → pR} (hr105 : ∀ (x2 : Int32) (h : pH) (q : Int32 × pH), r105 x2 h = some q → px_G (d + 6 + 1) (pX_RX11, prog_13_method_27_code, 3, (some .int)) 105 [some (.inr (.inl 51)), none, some (.inl x2)] [] h q) : ∀ (x2 : Int32) (h : pH) (q : Int32 × pH), mo_house_149 r105 x2 h = some q → px_G (d + 6 + 1) (pX_RX11, prog_13_method_27_code, 3, (some .int)) 149 [some (.inr (.inl 51)), none, some (.inl x2)] [] h q := by
  intro x2 h q e
  exact px_blk_ok (d := d + 6) (M := (pX_RX11, prog_13_method_27_code, 3, (some .int))) (C := mo_house_orc) (code := mo_house_code) (ld := [172]) (kl := [(172, fun ls st h => px_if (px_fit [61, 0, 1] ls && px_fits [] st) (mo_house_172 r105 (px_gi ls 2) h))]) (mo_house_orc_ok) pX_ok_RX11 mo_house_code_ok (px_k1 (px_ko (ts := [61, 0, 1]) (ss := []) fun ls st h q e => mo_house_172_ok hr105 _ _ _ e) px_k0) 225 149 _ _ h q e
set_option maxRecDepth 200000 in
theorem mo_house_105_ok {d : Nat} : ∀ (n : Nat) (x2 : Int32) (h : pH) (q : Int32 × pH), mo_house_105 n x2 h = some q → px_G (d + 6 + 1) (pX_RX11, prog_13_method_27_code, 3, (some .int)) 105 [some (.inr (.inl 51)), none, some (.inl x2)] [] h q := by
  intro n
  induction n with
  | zero =>
    intro x2 h q e
    cases e
  | succ n ih =>
    intro x2 h q e
    exact px_blk_ok (d := d + 6) (M := (pX_RX11, prog_13_method_27_code, 3, (some .int))) (C := mo_house_orc) (code := mo_house_code) (ld := [149, 180]) (kl := [(149, fun ls st h => px_if (px_fit [61, 0, 1] ls && px_fits [] st) (mo_house_149 (mo_house_105 n) (px_gi ls 2) h)), (180, fun ls st h => px_if (px_fit [61, 0, 1] ls && px_fits [] st) (mo_house_180 px_F (px_gi ls 2) h))]) (mo_house_orc_ok) pX_ok_RX11 mo_house_code_ok (px_k1 (px_ko (ts := [61, 0, 1]) (ss := []) fun ls st h q e => mo_house_149_ok ih _ _ _ e) (px_k1 (px_ko (ts := [61, 0, 1]) (ss := []) fun ls st h q e => mo_house_180_ok _ _ _ _ e) px_k0)) 225 105 _ _ h q e
set_option maxRecDepth 200000 in
theorem mo_house_89_ok {d : Nat} : ∀ (h : pH) (q : Int32 × pH), mo_house_89 h = some q → px_G (d + 6 + 1) (pX_RX11, prog_13_method_27_code, 3, (some .int)) 89 [some (.inr (.inl 51)), none, none] [] h q := by
  intro h q e
  exact px_blk_ok (d := d + 6) (M := (pX_RX11, prog_13_method_27_code, 3, (some .int))) (C := mo_house_orc) (code := mo_house_code) (ld := [105]) (kl := [(105, fun ls st h => px_if (px_fit [61, 0, 1] ls && px_fits [] st) (mo_house_105 px_F (px_gi ls 2) h))]) (mo_house_orc_ok) pX_ok_RX11 mo_house_code_ok (px_k1 (px_ko (ts := [61, 0, 1]) (ss := []) fun ls st h q e => mo_house_105_ok _ _ _ _ e) px_k0) 225 89 _ _ h q e
set_option maxRecDepth 200000 in
theorem mo_house_70_ok {d : Nat} : ∀ (h : pH) (q : Int32 × pH), mo_house_70 h = some q → px_G (d + 6 + 1) (pX_RX11, prog_13_method_27_code, 3, (some .int)) 70 [some (.inr (.inl 51)), none, none] [] h q := by
  intro h q e
  exact px_blk_ok (d := d + 6) (M := (pX_RX11, prog_13_method_27_code, 3, (some .int))) (C := mo_house_orc) (code := mo_house_code) (ld := [89]) (kl := [(89, fun ls st h => px_if (px_fit [61, 0, 0] ls && px_fits [] st) (mo_house_89 h))]) (mo_house_orc_ok) pX_ok_RX11 mo_house_code_ok (px_k1 (px_ko (ts := [61, 0, 0]) (ss := []) fun ls st h q e => mo_house_89_ok _ _ e) px_k0) 225 70 _ _ h q e
set_option maxRecDepth 200000 in
theorem mo_house_45_ok {d : Nat} : ∀ (n : Nat) (x1 : Int32) (h : pH) (q : Int32 × pH), mo_house_45 n x1 h = some q → px_G (d + 6 + 1) (pX_RX11, prog_13_method_27_code, 3, (some .int)) 45 [some (.inr (.inl 51)), some (.inl x1), none] [] h q := by
  intro n
  induction n with
  | zero =>
    intro x1 h q e
    cases e
  | succ n ih =>
    intro x1 h q e
    exact px_blk_ok (d := d + 6) (M := (pX_RX11, prog_13_method_27_code, 3, (some .int))) (C := mo_house_orc) (code := mo_house_code) (ld := [45, 70]) (kl := [(45, fun ls st h => px_if (px_fit [61, 1, 0] ls && px_fits [] st) (mo_house_45 n (px_gi ls 1) h)), (70, fun ls st h => px_if (px_fit [61, 0, 0] ls && px_fits [] st) (mo_house_70 h))]) (mo_house_orc_ok) pX_ok_RX11 mo_house_code_ok (px_k1 (px_ko (ts := [61, 1, 0]) (ss := []) fun ls st h q e => ih _ _ _ e) (px_k1 (px_ko (ts := [61, 0, 0]) (ss := []) fun ls st h q e => mo_house_70_ok _ _ e) px_k0)) 225 45 _ _ h q e
set_option maxRecDepth 200000 in
theorem mo_house_43_ok {d : Nat} : ∀ (h : pH) (q : Int32 × pH), mo_house_43 h = some q → px_G (d + 6 + 1) (pX_RX11, prog_13_method_27_code, 3, (some .int)) 43 [some (.inr (.inl 51)), none, none] [] h q := by
  intro h q e
  exact px_blk_ok (d := d + 6) (M := (pX_RX11, prog_13_method_27_code, 3, (some .int))) (C := mo_house_orc) (code := mo_house_code) (ld := [45]) (kl := [(45, fun ls st h => px_if (px_fit [61, 1, 0] ls && px_fits [] st) (mo_house_45 px_F (px_gi ls 1) h))]) (mo_house_orc_ok) pX_ok_RX11 mo_house_code_ok (px_k1 (px_ko (ts := [61, 1, 0]) (ss := []) fun ls st h q e => mo_house_45_ok _ _ _ _ e) px_k0) 225 43 _ _ h q e
set_option maxRecDepth 200000 in
theorem mo_house_24_ok {d : Nat} : ∀ (h : pH) (q : Int32 × pH), mo_house_24 h = some q → px_G (d + 6 + 1) (pX_RX11, prog_13_method_27_code, 3, (some .int)) 24 [some (.inr (.inl 51)), none, none] [] h q := by
  intro h q e
  exact px_blk_ok (d := d + 6) (M := (pX_RX11, prog_13_method_27_code, 3, (some .int))) (C := mo_house_orc) (code := mo_house_code) (ld := [43]) (kl := [(43, fun ls st h => px_if (px_fit [61, 0, 0] ls && px_fits [] st) (mo_house_43 h))]) (mo_house_orc_ok) pX_ok_RX11 mo_house_code_ok (px_k1 (px_ko (ts := [61, 0, 0]) (ss := []) fun ls st h q e => mo_house_43_ok _ _ e) px_k0) 225 24 _ _ h q e
set_option maxRecDepth 200000 in
theorem mo_house_ok {d : Nat} {h : pH} {q : Int32 × pH} (e : mo_house h = some q) : px_Con (d + 7) 199 [.inr (.inl 51)] h q :=
  px_con (X := pX_RX11) (b := prog_13_method_27_code) (nL := 3) (rt := (some .int)) rfl rfl (Nat.le_of_ble_eq_true rfl) rfl (px_blk_ok (d := d + 6) (M := (pX_RX11, prog_13_method_27_code, 3, (some .int))) (C := mo_house_orc) (code := mo_house_code) (ld := [24]) (kl := [(24, fun ls st h => px_if (px_fit [61, 0, 0] ls && px_fits [] st) (mo_house_24 h))]) (mo_house_orc_ok) pX_ok_RX11 mo_house_code_ok (px_k1 (px_ko (ts := [61, 0, 0]) (ss := []) fun ls st h q e => mo_house_24_ok _ _ e) px_k0) 225 0 _ _ _ q e)
