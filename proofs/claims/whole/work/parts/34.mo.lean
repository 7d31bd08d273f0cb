/-! the reference: crossings -/
/-! WordsUnsaidModel.goes([IIII)Z -/
noncomputable def mo_goes_129 (a1 : Nat) (x2 : Int32) (x3 : Int32) (x4 : Int32) (h : pH) : pR :=
  px_bind (mo_stranded x3 x4 h) fun z1 h2 =>
  px_bind (mo_put a1 x2 z1 h2) fun _ h4 =>
  px_bz (px_c 0) h4
noncomputable def mo_goes_110 (a1 : Nat) (x2 : Int32) (x3 : Int32) (x4 : Int32) (x8 : Int32) (h : pH) : pR :=
  px_if (px_ok 0 a1 ((px_c 22) + x8)) <|
  let h1 := px_w h a1 ((px_c 22) + x8).toNatClampNeg (px_c 1)
  px_if (px_ok 0 a1 ((px_c 42) + x8)) <|
  px_if (px_ok 0 a1 ((px_c 42) + x8)) <|
  let h2 := px_w h1 a1 ((px_c 42) + x8).toNatClampNeg ((h1 a1 ((px_c 42) + x8).toNatClampNeg) ||| x2)
  mo_goes_129 a1 x2 x3 x4 h2
noncomputable def mo_goes_34 (r25 : Nat → Int32 → Int32 → Int32 → Int32 → Int32 → Int32 → pH → pR) : Nat → Nat → Int32 → Int32 → Int32 → Int32 → Int32 → Int32 → pH → pR
  | 0, _, _, _, _, _, _, _, _ => none
  | n + 1, a1, x2, x3, x4, x5, x6, x7, h =>
    px_if (px_ok 0 65 x6) <|
    px_if (px_ok 0 a1 ((px_c 12) + (h 65 x6.toNatClampNeg))) <|
    if (h a1 ((px_c 12) + (h 65 x6.toNatClampNeg)).toNatClampNeg) = 0 then
      mo_goes_34 r25 n a1 x2 x3 x4 x5 (x6 + px_c 1) (px_c 0) h
    else
      px_if (px_ok 0 65 x6) <|
      let y8_1 := h 65 x6.toNatClampNeg
      px_bind (mo_pressureOf a1 y8_1 x7 (h 51 31) x2 h) fun z2 h3 =>
      let h4 := px_w h3 51 33 z2
      px_if (px_ok 0 a1 ((px_c 32) + y8_1)) <|
      px_if (px_ok 0 54 (h4 a1 ((px_c 32) + y8_1).toNatClampNeg)) <|
      if (h4 51 33) ≤ (h4 54 (h4 a1 ((px_c 32) + y8_1).toNatClampNeg).toNatClampNeg) then
        px_if (px_ok 0 a1 ((px_c 12) + y8_1)) <|
        px_if (px_ok 0 a1 ((px_c 12) + y8_1)) <|
        let h5 := px_w h4 a1 ((px_c 12) + y8_1).toNatClampNeg ((h4 a1 ((px_c 12) + y8_1).toNatClampNeg) - (px_c 1))
        let h6 := px_w h5 51 31 ((h5 51 31) + (px_c 1))
        r25 a1 x2 x3 x4 x5 x6 (x7 + px_c 1) h6
      else
        let h7 := px_w h4 51 32 y8_1
        mo_goes_110 a1 x2 x3 x4 y8_1 h7
noncomputable def mo_goes_25 : Nat → Nat → Int32 → Int32 → Int32 → Int32 → Int32 → Int32 → pH → pR
  | 0, _, _, _, _, _, _, _, _ => none
  | n + 1, a1, x2, x3, x4, x5, x6, x7, h =>
    if x5 ≤ (h 51 31) then
      px_bind (mo_put a1 x2 x4 h) fun _ h2 =>
      px_bz (px_c 1) h2
    else
      mo_goes_34 (mo_goes_25 n) px_F a1 x2 x3 x4 x5 x6 x7 h
noncomputable def mo_goes (a1 : Nat) (x2 : Int32) (x3 : Int32) (x4 : Int32) (h : pH) : pR :=
  px_bind (mo_distance x3 x4 h) fun z1 h2 =>
  let h3 := px_w h2 51 31 (px_c 0)
  let h4 := px_w h3 51 32 (px_c (-1))
  mo_goes_25 px_F a1 x2 x3 x4 z1 (px_c 0) (px_c 0) h4
def mo_goes_code : pCode := [(0, .aload_n 0, 1), (1, .iload_n 3, 1), (2, .iload 4, 2), (4, .invokevirtual 268, 3), (7, .istore 5, 2), (9, .iconst 0, 1), (10, .istore 6, 2), (12, .iconst 0, 1), (13, .istore 7, 2), (15, .aload_n 0, 1), (16, .iconst 0, 1), (17, .putfield 271, 3), (20, .aload_n 0, 1), (21, .iconst (-1), 1), (22, .putfield 274, 3), (25, .aload_n 0, 1), (26, .getfield 271, 3), (29, .iload 5, 2), (31, .if_icmp .ge (140), 3), (34, .aload_n 1, 1), (35, .bipush (12), 2), (37, .aload_n 0, 1), (38, .getfield 54, 3), (41, .iload 6, 2), (43, .iaload, 1), (44, .iadd, 1), (45, .iaload, 1), (46, .ifCond .ne (12), 3), (49, .iinc 6 (1), 3), (52, .iconst 0, 1), (53, .istore 7, 2), (55, .goto (-21), 3), (58, .aload_n 0, 1), (59, .getfield 54, 3), (62, .iload 6, 2), (64, .iaload, 1), (65, .istore 8, 2), (67, .aload_n 0, 1), (68, .aload_n 0, 1), (69, .aload_n 1, 1), (70, .iload 8, 2), (72, .iload 7, 2), (74, .aload_n 0, 1), (75, .getfield 271, 3), (78, .iload_n 2, 1), (79, .invokevirtual 277, 3), (82, .putfield 281, 3), (85, .aload_n 0, 1), (86, .getfield 281, 3), (89, .aload_n 0, 1), (90, .getfield 20, 3), (93, .aload_n 1, 1), (94, .bipush (32), 2), (96, .iload 8, 2), (98, .iadd, 1), (99, .iaload, 1), (100, .iaload, 1), (101, .if_icmp .le (43), 3), (104, .aload_n 0, 1), (105, .iload 8, 2), (107, .putfield 274, 3), (110, .aload_n 1, 1), (111, .bipush (22), 2), (113, .iload 8, 2), (115, .iadd, 1), (116, .iconst 1, 1), (117, .iastore, 1), (118, .aload_n 1, 1), (119, .bipush (42), 2), (121, .iload 8, 2), (123, .iadd, 1), (124, .dup2, 1), (125, .iaload, 1), (126, .iload_n 2, 1), (127, .ior, 1), (128, .iastore, 1), (129, .aload_n 0, 1), (130, .aload_n 1, 1), (131, .iload_n 2, 1), (132, .aload_n 0, 1), (133, .iload_n 3, 1), (134, .iload 4, 2), (136, .invokevirtual 284, 3), (139, .invokevirtual 287, 3), (142, .iconst 0, 1), (143, .ireturn, 1), (144, .aload_n 1, 1), (145, .bipush (12), 2), (147, .iload 8, 2), (149, .iadd, 1), (150, .dup2, 1), (151, .iaload, 1), (152, .iconst 1, 1), (153, .isub, 1), (154, .iastore, 1), (155, .iinc 7 (1), 3), (158, .aload_n 0, 1), (159, .dup, 1), (160, .getfield 271, 3), (163, .iconst 1, 1), (164, .iadd, 1), (165, .putfield 271, 3), (168, .goto (-143), 3), (171, .aload_n 0, 1), (172, .aload_n 1, 1), (173, .iload_n 2, 1), (174, .iload 4, 2), (176, .invokevirtual 287, 3), (179, .iconst 1, 1), (180, .ireturn, 1)]
set_option maxRecDepth 200000 in
theorem mo_goes_code_ok : px_code prog_13_method_47_code mo_goes_code = true := by decide +kernel
noncomputable def mo_goes_orc : pC := px_orc [(221, fun a h => match a with
    | [.inr (.inl 51), .inl v1, .inl v2] => mo_stranded v1 v2 h
    | _ => none), (220, fun a h => match a with
    | [.inr (.inl 51), .inr (.inl v1), .inl v2, .inl v3] => mo_put v1 v2 v3 h
    | _ => none), (206, fun a h => match a with
    | [.inr (.inl 51), .inr (.inl v1), .inl v2, .inl v3, .inl v4, .inl v5] => mo_pressureOf v1 v2 v3 v4 v5 h
    | _ => none), (218, fun a h => match a with
    | [.inr (.inl 51), .inl v1, .inl v2] => mo_distance v1 v2 h
    | _ => none)]
theorem mo_goes_orc_ok {d : Nat} : px_Or (d + 105) (mo_goes_orc) := px_orc_ok (by
  refine px_o1 (fun a h q e => by
    dsimp only at e
    split at e
    · exact mo_stranded_ok (d := d + 103) e
    · cases e) ?_
  refine px_o1 (fun a h q e => by
    dsimp only at e
    split at e
    · exact mo_put_ok (d := d + 103) e
    · cases e) ?_
  refine px_o1 (fun a h q e => by
    dsimp only at e
    split at e
    · exact mo_pressureOf_ok (d := d + 0) e
    · cases e) ?_
  refine px_o1 (fun a h q e => by
    dsimp only at e
    split at e
    · exact mo_distance_ok (d := d + 103) e
    · cases e) ?_
  exact px_o0)
set_option maxRecDepth 200000 in
theorem mo_goes_129_ok {d : Nat} : ∀ (a1 : Nat) (x2 : Int32) (x3 : Int32) (x4 : Int32) (h : pH) (q : Int32 × pH), mo_goes_129 a1 x2 x3 x4 h = some q → px_G (d + 105 + 1) (pX_RX11, prog_13_method_47_code, 9, (some .boolean)) 129 [some (.inr (.inl 51)), some (.inr (.inl a1)), some (.inl x2), some (.inl x3), some (.inl x4), none, none, none, none] [] h q := by
  intro a1 x2 x3 x4 h q e
  exact px_blk_ok (d := d + 105) (M := (pX_RX11, prog_13_method_47_code, 9, (some .boolean))) (C := mo_goes_orc) (code := mo_goes_code) (ld := []) (kl := []) (mo_goes_orc_ok) pX_ok_RX11 mo_goes_code_ok (px_k0) 115 129 _ _ h q e
set_option maxRecDepth 200000 in
theorem mo_goes_110_ok {d : Nat} : ∀ (a1 : Nat) (x2 : Int32) (x3 : Int32) (x4 : Int32) (x8 : Int32) (h : pH) (q : Int32 × pH), mo_goes_110 a1 x2 x3 x4 x8 h = some q → px_G (d + 105 + 1) (pX_RX11, prog_13_method_47_code, 9, (some .boolean)) 110 [some (.inr (.inl 51)), some (.inr (.inl a1)), some (.inl x2), some (.inl x3), some (.inl x4), none, none, none, some (.inl x8)] [] h q := by
  intro a1 x2 x3 x4 x8 h q e
  exact px_blk_ok (d := d + 105) (M := (pX_RX11, prog_13_method_47_code, 9, (some .boolean))) (C := mo_goes_orc) (code := mo_goes_code) (ld := [129]) (kl := [(129, fun ls st h => px_if (px_fit [61, 2, 1, 1, 1, 0, 0, 0, 0] ls && px_fits [] st) (mo_goes_129 (px_gr ls 1) (px_gi ls 2) (px_gi ls 3) (px_gi ls 4) h))]) (mo_goes_orc_ok) pX_ok_RX11 mo_goes_code_ok (px_k1 (px_ko (ts := [61, 2, 1, 1, 1, 0, 0, 0, 0]) (ss := []) fun ls st h q e => mo_goes_129_ok _ _ _ _ _ _ e) px_k0) 115 110 _ _ h q e
set_option maxRecDepth 200000 in
theorem mo_goes_34_ok {d : Nat} {r25 : Nat → Int32 → Int32 → Int32 → Int32 → Int32 → Int32 → pH → pR} (hr25 : ∀ (a1 : Nat) (x2 : Int32) (x3 : Int32) (x4 : Int32) (x5 : Int32) (x6 : Int32) (x7 : Int32) (h : pH) (q : Int32 × pH), r25 a1 x2 x3 x4 x5 x6 x7 h = some q → px_G (d + 105 + 1) (pX_RX11, prog_13_method_47_code, 9, (some .boolean)) 25 [some (.inr (.inl 51)), some (.inr (.inl a1)), some (.inl x2), some (.inl x3), some (.inl x4), some (.inl x5), some (.inl x6), some (.inl x7), none] [] h q) : ∀ (n : Nat) (a1 : Nat) (x2 : Int32) (x3 : Int32) (x4 : Int32) (x5 : Int32) (x6 : Int32) (x7 : Int32) (h : pH) (q : Int32 × pH), mo_goes_34 r25 n a1 x2 x3 x4 x5 x6 x7 h = some q → px_G (d + 105 + 1) (pX_RX11, prog_13_method_47_code, 9, (some .boolean)) 34 [some (.inr (.inl 51)), some (.inr (.inl a1)), some (.inl x2), some (.inl x3), some (.inl x4), some (.inl x5), some (.inl x6), some (.inl x7), none] [] h q := by
  intro n
  induction n with
  | zero =>
    intro a1 x2 x3 x4 x5 x6 x7 h q e
    cases e
  | succ n ih =>
    intro a1 x2 x3 x4 x5 x6 x7 h q e
    exact px_blk_ok (d := d + 105) (M := (pX_RX11, prog_13_method_47_code, 9, (some .boolean))) (C := mo_goes_orc) (code := mo_goes_code) (ld := [25, 34, 110]) (kl := [(25, fun ls st h => px_if (px_fit [61, 2, 1, 1, 1, 1, 1, 1, 0] ls && px_fits [] st) (r25 (px_gr ls 1) (px_gi ls 2) (px_gi ls 3) (px_gi ls 4) (px_gi ls 5) (px_gi ls 6) (px_gi ls 7) h)), (34, fun ls st h => px_if (px_fit [61, 2, 1, 1, 1, 1, 1, 1, 0] ls && px_fits [] st) (mo_goes_34 r25 n (px_gr ls 1) (px_gi ls 2) (px_gi ls 3) (px_gi ls 4) (px_gi ls 5) (px_gi ls 6) (px_gi ls 7) h)), (110, fun ls st h => px_if (px_fit [61, 2, 1, 1, 1, 0, 0, 0, 1] ls && px_fits [] st) (mo_goes_110 (px_gr ls 1) (px_gi ls 2) (px_gi ls 3) (px_gi ls 4) (px_gi ls 8) h))]) (mo_goes_orc_ok) pX_ok_RX11 mo_goes_code_ok (px_k1 (px_ko (ts := [61, 2, 1, 1, 1, 1, 1, 1, 0]) (ss := []) fun ls st h q e => hr25 _ _ _ _ _ _ _ _ _ e) (px_k1 (px_ko (ts := [61, 2, 1, 1, 1, 1, 1, 1, 0]) (ss := []) fun ls st h q e => ih _ _ _ _ _ _ _ _ _ e) (px_k1 (px_ko (ts := [61, 2, 1, 1, 1, 0, 0, 0, 1]) (ss := []) fun ls st h q e => mo_goes_110_ok _ _ _ _ _ _ _ e) px_k0))) 115 34 _ _ h q e
set_option maxRecDepth 200000 in
theorem mo_goes_25_ok {d : Nat} : ∀ (n : Nat) (a1 : Nat) (x2 : Int32) (x3 : Int32) (x4 : Int32) (x5 : Int32) (x6 : Int32) (x7 : Int32) (h : pH) (q : Int32 × pH), mo_goes_25 n a1 x2 x3 x4 x5 x6 x7 h = some q → px_G (d + 105 + 1) (pX_RX11, prog_13_method_47_code, 9, (some .boolean)) 25 [some (.inr (.inl 51)), some (.inr (.inl a1)), some (.inl x2), some (.inl x3), some (.inl x4), some (.inl x5), some (.inl x6), some (.inl x7), none] [] h q := by
  intro n
  induction n with
  | zero =>
    intro a1 x2 x3 x4 x5 x6 x7 h q e
    cases e
  | succ n ih =>
    intro a1 x2 x3 x4 x5 x6 x7 h q e
    exact px_blk_ok (d := d + 105) (M := (pX_RX11, prog_13_method_47_code, 9, (some .boolean))) (C := mo_goes_orc) (code := mo_goes_code) (ld := [34]) (kl := [(34, fun ls st h => px_if (px_fit [61, 2, 1, 1, 1, 1, 1, 1, 0] ls && px_fits [] st) (mo_goes_34 (mo_goes_25 n) px_F (px_gr ls 1) (px_gi ls 2) (px_gi ls 3) (px_gi ls 4) (px_gi ls 5) (px_gi ls 6) (px_gi ls 7) h))]) (mo_goes_orc_ok) pX_ok_RX11 mo_goes_code_ok (px_k1 (px_ko (ts := [61, 2, 1, 1, 1, 1, 1, 1, 0]) (ss := []) fun ls st h q e => mo_goes_34_ok ih _ _ _ _ _ _ _ _ _ _ e) px_k0) 115 25 _ _ h q e
set_option maxRecDepth 200000 in
theorem mo_goes_ok {d : Nat} {a1 : Nat} {x2 : Int32} {x3 : Int32} {x4 : Int32} {h : pH} {q : Int32 × pH} (e : mo_goes a1 x2 x3 x4 h = some q) : px_Con (d + 106) 219 [.inr (.inl 51), .inr (.inl a1), .inl x2, .inl x3, .inl x4] h q :=
  px_con (X := pX_RX11) (b := prog_13_method_47_code) (nL := 9) (rt := (some .boolean)) rfl rfl (Nat.le_of_ble_eq_true rfl) rfl (px_blk_ok (d := d + 105) (M := (pX_RX11, prog_13_method_47_code, 9, (some .boolean))) (C := mo_goes_orc) (code := mo_goes_code) (ld := [25]) (kl := [(25, fun ls st h => px_if (px_fit [61, 2, 1, 1, 1, 1, 1, 1, 0] ls && px_fits [] st) (mo_goes_25 px_F (px_gr ls 1) (px_gi ls 2) (px_gi ls 3) (px_gi ls 4) (px_gi ls 5) (px_gi ls 6) (px_gi ls 7) h))]) (mo_goes_orc_ok) pX_ok_RX11 mo_goes_code_ok (px_k1 (px_ko (ts := [61, 2, 1, 1, 1, 1, 1, 1, 0]) (ss := []) fun ls st h q e => mo_goes_25_ok _ _ _ _ _ _ _ _ _ _ e) px_k0) 115 0 _ _ _ q e)
/-! WordsUnsaidModel.aboardOf(III)I -/
noncomputable def mo_aboardOf_86 (s0 : Int32) (h : pH) : pR :=
  some (s0, h)
noncomputable def mo_aboardOf_85 (s0 : Int32) (s1 : Int32) (h : pH) : pR :=
  mo_aboardOf_86 (s1 ||| s0) h
noncomputable def mo_aboardOf_59 (x1 : Int32) (x2 : Int32) (s0 : Int32) (h : pH) : pR :=
  if s0 = 0 then
    mo_aboardOf_86 (px_c 0) h
  else
    if x2 = (px_c (-1)) then
      mo_aboardOf_85 (px_c 0) ((px_c 1) <<< (x1 &&& 31)) h
    else
      mo_aboardOf_85 ((px_c 1) <<< (x2 &&& 31)) ((px_c 1) <<< (x1 &&& 31)) h
noncomputable def mo_aboardOf_58 (x1 : Int32) (x2 : Int32) (h : pH) : pR :=
  mo_aboardOf_59 x1 x2 (px_c 0) h
noncomputable def mo_aboardOf_37 (x1 : Int32) (x2 : Int32) (x3 : Int32) (h : pH) : pR :=
  px_bind (mo_isBank x3 h) fun z1 h2 =>
  if z1 = 0 then
    mo_aboardOf_58 x1 x2 h2
  else
    px_if (px_ok 0 52 x1) <|
    if (h2 52 x1.toNatClampNeg) = x3 then
      mo_aboardOf_58 x1 x2 h2
    else
      mo_aboardOf_59 x1 x2 (px_c 1) h2
noncomputable def mo_aboardOf (x1 : Int32) (x2 : Int32) (x3 : Int32) (h : pH) : pR :=
  px_bind (mo_isPerson x1 h) fun z1 h2 =>
  if z1 = 0 then
    mo_aboardOf_58 x1 x2 h2
  else
    if x2 = (px_c (-1)) then
      mo_aboardOf_37 x1 x2 x3 h2
    else
      px_bind (mo_areTwo x1 x2 h2) fun z3 h4 =>
      if z3 = 0 then
        mo_aboardOf_58 x1 x2 h4
      else
        px_if (px_ok 0 52 x1) <|
        px_if (px_ok 0 52 x2) <|
        if (h4 52 x1.toNatClampNeg) = (h4 52 x2.toNatClampNeg) then
          mo_aboardOf_37 x1 x2 x3 h4
        else
          mo_aboardOf_58 x1 x2 h4
def mo_aboardOf_code : pCode := [(0, .aload_n 0, 1), (1, .iload_n 1, 1), (2, .invokevirtual 122, 3), (5, .ifCond .eq (53), 3), (8, .iload_n 2, 1), (9, .iconst (-1), 1), (10, .if_icmp .eq (27), 3), (13, .aload_n 0, 1), (14, .iload_n 1, 1), (15, .iload_n 2, 1), (16, .invokevirtual 299, 3), (19, .ifCond .eq (39), 3), (22, .aload_n 0, 1), (23, .getfield 9, 3), (26, .iload_n 1, 1), (27, .iaload, 1), (28, .aload_n 0, 1), (29, .getfield 9, 3), (32, .iload_n 2, 1), (33, .iaload, 1), (34, .if_icmp .ne (24), 3), (37, .iload_n 3, 1), (38, .invokestatic 302, 3), (41, .ifCond .eq (17), 3), (44, .aload_n 0, 1), (45, .getfield 9, 3), (48, .iload_n 1, 1), (49, .iaload, 1), (50, .iload_n 3, 1), (51, .if_icmp .eq (7), 3), (54, .iconst 1, 1), (55, .goto (4), 3), (58, .iconst 0, 1), (59, .istore 4, 2), (61, .iload 4, 2), (63, .ifCond .ne (7), 3), (66, .iconst 0, 1), (67, .goto (19), 3), (70, .iconst 1, 1), (71, .iload_n 1, 1), (72, .ishl, 1), (73, .iload_n 2, 1), (74, .iconst (-1), 1), (75, .if_icmp .ne (7), 3), (78, .iconst 0, 1), (79, .goto (6), 3), (82, .iconst 1, 1), (83, .iload_n 2, 1), (84, .ishl, 1), (85, .ior, 1), (86, .ireturn, 1)]
set_option maxRecDepth 200000 in
theorem mo_aboardOf_code_ok : px_code prog_13_method_53_code mo_aboardOf_code = true := by decide +kernel
noncomputable def mo_aboardOf_orc : pC := px_orc [(183, fun a h => match a with
    | [.inl v0] => mo_isBank v0 h
    | _ => none), (179, fun a h => match a with
    | [.inr (.inl 51), .inl v1] => mo_isPerson v1 h
    | _ => none), (181, fun a h => match a with
    | [.inr (.inl 51), .inl v1, .inl v2] => mo_areTwo v1 v2 h
    | _ => none)]
theorem mo_aboardOf_orc_ok {d : Nat} : px_Or (d + 3) (mo_aboardOf_orc) := px_orc_ok (by
  refine px_o1 (fun a h q e => by
    dsimp only at e
    split at e
    · exact mo_isBank_ok (d := d + 1) e
    · cases e) ?_
  refine px_o1 (fun a h q e => by
    dsimp only at e
    split at e
    · exact mo_isPerson_ok (d := d + 1) e
    · cases e) ?_
  refine px_o1 (fun a h q e => by
    dsimp only at e
    split at e
    · exact mo_areTwo_ok (d := d + 0) e
    · cases e) ?_
  exact px_o0)
set_option maxRecDepth 200000 in
theorem mo_aboardOf_86_ok {d : Nat} : ∀ (s0 : Int32) (h : pH) (q : Int32 × pH), mo_aboardOf_86 s0 h = some q → px_G (d + 3 + 1) (pX_RX11, prog_13_method_53_code, 5, (some .int)) 86 [none, none, none, none, none] [.inl s0] h q := by
  intro s0 h q e
  exact px_blk_ok (d := d + 3) (M := (pX_RX11, prog_13_method_53_code, 5, (some .int))) (C := mo_aboardOf_orc) (code := mo_aboardOf_code) (ld := []) (kl := []) (mo_aboardOf_orc_ok) pX_ok_RX11 mo_aboardOf_code_ok (px_k0) 56 86 _ _ h q e
set_option maxRecDepth 200000 in
theorem mo_aboardOf_85_ok {d : Nat} : ∀ (s0 : Int32) (s1 : Int32) (h : pH) (q : Int32 × pH), mo_aboardOf_85 s0 s1 h = some q → px_G (d + 3 + 1) (pX_RX11, prog_13_method_53_code, 5, (some .int)) 85 [none, none, none, none, none] [.inl s0, .inl s1] h q := by
  intro s0 s1 h q e
  exact px_blk_ok (d := d + 3) (M := (pX_RX11, prog_13_method_53_code, 5, (some .int))) (C := mo_aboardOf_orc) (code := mo_aboardOf_code) (ld := [86]) (kl := [(86, fun ls st h => px_if (px_fit [0, 0, 0, 0, 0] ls && px_fits [1] st) (mo_aboardOf_86 (px_si st 0) h))]) (mo_aboardOf_orc_ok) pX_ok_RX11 mo_aboardOf_code_ok (px_k1 (px_ko (ts := [0, 0, 0, 0, 0]) (ss := [1]) fun ls st h q e => mo_aboardOf_86_ok _ _ _ e) px_k0) 56 85 _ _ h q e
set_option maxRecDepth 200000 in
theorem mo_aboardOf_59_ok {d : Nat} : ∀ (x1 : Int32) (x2 : Int32) (s0 : Int32) (h : pH) (q : Int32 × pH), mo_aboardOf_59 x1 x2 s0 h = some q → px_G (d + 3 + 1) (pX_RX11, prog_13_method_53_code, 5, (some .int)) 59 [none, some (.inl x1), some (.inl x2), none, none] [.inl s0] h q := by
  intro x1 x2 s0 h q e
  exact px_blk_ok (d := d + 3) (M := (pX_RX11, prog_13_method_53_code, 5, (some .int))) (C := mo_aboardOf_orc) (code := mo_aboardOf_code) (ld := [85, 86]) (kl := [(85, fun ls st h => px_if (px_fit [0, 0, 0, 0, 0] ls && px_fits [1, 1] st) (mo_aboardOf_85 (px_si st 0) (px_si st 1) h)), (86, fun ls st h => px_if (px_fit [0, 0, 0, 0, 0] ls && px_fits [1] st) (mo_aboardOf_86 (px_si st 0) h))]) (mo_aboardOf_orc_ok) pX_ok_RX11 mo_aboardOf_code_ok (px_k1 (px_ko (ts := [0, 0, 0, 0, 0]) (ss := [1, 1]) fun ls st h q e => mo_aboardOf_85_ok _ _ _ _ e) (px_k1 (px_ko (ts := [0, 0, 0, 0, 0]) (ss := [1]) fun ls st h q e => mo_aboardOf_86_ok _ _ _ e) px_k0)) 56 59 _ _ h q e
set_option maxRecDepth 200000 in
theorem mo_aboardOf_58_ok {d : Nat} : ∀ (x1 : Int32) (x2 : Int32) (h : pH) (q : Int32 × pH), mo_aboardOf_58 x1 x2 h = some q → px_G (d + 3 + 1) (pX_RX11, prog_13_method_53_code, 5, (some .int)) 58 [none, some (.inl x1), some (.inl x2), none, none] [] h q := by
  intro x1 x2 h q e
  exact px_blk_ok (d := d + 3) (M := (pX_RX11, prog_13_method_53_code, 5, (some .int))) (C := mo_aboardOf_orc) (code := mo_aboardOf_code) (ld := [59]) (kl := [(59, fun ls st h => px_if (px_fit [0, 1, 1, 0, 0] ls && px_fits [1] st) (mo_aboardOf_59 (px_gi ls 1) (px_gi ls 2) (px_si st 0) h))]) (mo_aboardOf_orc_ok) pX_ok_RX11 mo_aboardOf_code_ok (px_k1 (px_ko (ts := [0, 1, 1, 0, 0]) (ss := [1]) fun ls st h q e => mo_aboardOf_59_ok _ _ _ _ _ e) px_k0) 56 58 _ _ h q e
set_option maxRecDepth 200000 in
theorem mo_aboardOf_37_ok {d : Nat} : ∀ (x1 : Int32) (x2 : Int32) (x3 : Int32) (h : pH) (q : Int32 × pH), mo_aboardOf_37 x1 x2 x3 h = some q → px_G (d + 3 + 1) (pX_RX11, prog_13_method_53_code, 5, (some .int)) 37 [some (.inr (.inl 51)), some (.inl x1), some (.inl x2), some (.inl x3), none] [] h q := by
  intro x1 x2 x3 h q e
  exact px_blk_ok (d := d + 3) (M := (pX_RX11, prog_13_method_53_code, 5, (some .int))) (C := mo_aboardOf_orc) (code := mo_aboardOf_code) (ld := [58, 59]) (kl := [(58, fun ls st h => px_if (px_fit [0, 1, 1, 0, 0] ls && px_fits [] st) (mo_aboardOf_58 (px_gi ls 1) (px_gi ls 2) h)), (59, fun ls st h => px_if (px_fit [0, 1, 1, 0, 0] ls && px_fits [1] st) (mo_aboardOf_59 (px_gi ls 1) (px_gi ls 2) (px_si st 0) h))]) (mo_aboardOf_orc_ok) pX_ok_RX11 mo_aboardOf_code_ok (px_k1 (px_ko (ts := [0, 1, 1, 0, 0]) (ss := []) fun ls st h q e => mo_aboardOf_58_ok _ _ _ _ e) (px_k1 (px_ko (ts := [0, 1, 1, 0, 0]) (ss := [1]) fun ls st h q e => mo_aboardOf_59_ok _ _ _ _ _ e) px_k0)) 56 37 _ _ h q e
set_option maxRecDepth 200000 in
theorem mo_aboardOf_ok {d : Nat} {x1 : Int32} {x2 : Int32} {x3 : Int32} {h : pH} {q : Int32 × pH} (e : mo_aboardOf x1 x2 x3 h = some q) : px_Con (d + 4) 225 [.inr (.inl 51), .inl x1, .inl x2, .inl x3] h q :=
  px_con (X := pX_RX11) (b := prog_13_method_53_code) (nL := 5) (rt := (some .int)) rfl rfl (Nat.le_of_ble_eq_true rfl) rfl (px_blk_ok (d := d + 3) (M := (pX_RX11, prog_13_method_53_code, 5, (some .int))) (C := mo_aboardOf_orc) (code := mo_aboardOf_code) (ld := [37, 58]) (kl := [(37, fun ls st h => px_if (px_fit [61, 1, 1, 1, 0] ls && px_fits [] st) (mo_aboardOf_37 (px_gi ls 1) (px_gi ls 2) (px_gi ls 3) h)), (58, fun ls st h => px_if (px_fit [0, 1, 1, 0, 0] ls && px_fits [] st) (mo_aboardOf_58 (px_gi ls 1) (px_gi ls 2) h))]) (mo_aboardOf_orc_ok) pX_ok_RX11 mo_aboardOf_code_ok (px_k1 (px_ko (ts := [61, 1, 1, 1, 0]) (ss := []) fun ls st h q e => mo_aboardOf_37_ok _ _ _ _ _ e) (px_k1 (px_ko (ts := [0, 1, 1, 0, 0]) (ss := []) fun ls st h q e => mo_aboardOf_58_ok _ _ _ _ e) px_k0)) 56 0 _ _ _ q e)
/-! WordsUnsaidModel.canLine([III)Z -/
noncomputable def mo_canLine_40 (h : pH) : pR :=
  px_bz (px_c 0) h
noncomputable def mo_canLine_45 : Nat → Int32 → Int32 → pH → pR
  | 0, _, _, _ => none
  | n + 1, x2, x4, h =>
    if (h 51 30) ≤ x4 then
      px_bz (px_c 1) h
    else
      px_if (px_ok 0 65 x4) <|
      if (h 65 x4.toNatClampNeg) = x2 then
        px_bz (px_c 0) h
      else
        mo_canLine_45 n x2 (x4 + px_c 1) h
noncomputable def mo_canLine (a1 : Nat) (x2 : Int32) (x3 : Int32) (h : pH) : pR :=
  px_bind (mo_isThing x2 h) fun z1 h2 =>
  if z1 = 0 then
    mo_canLine_40 h2
  else
    px_if (px_ok 0 a1 ((px_c 22) + x2)) <|
    if (h2 a1 ((px_c 22) + x2).toNatClampNeg) = (px_c 1) then
      mo_canLine_40 h2
    else
      px_if (px_ok 0 a1 ((px_c 12) + x2)) <|
      if (h2 a1 ((px_c 12) + x2).toNatClampNeg) = 0 then
        mo_canLine_40 h2
      else
        px_if (px_ok 0 a1 ((px_c 32) + x2)) <|
        px_bind (mo_has x3 (h2 a1 ((px_c 32) + x2).toNatClampNeg) h2) fun z3 h4 =>
        if z3 = 0 then
          mo_canLine_40 h4
        else
          mo_canLine_45 px_F x2 (px_c 0) h4
def mo_canLine_code : pCode := [(0, .aload_n 0, 1), (1, .iload_n 2, 1), (2, .invokevirtual 251, 3), (5, .ifCond .eq (35), 3), (8, .aload_n 1, 1), (9, .bipush (22), 2), (11, .iload_n 2, 1), (12, .iadd, 1), (13, .iaload, 1), (14, .iconst 1, 1), (15, .if_icmp .eq (25), 3), (18, .aload_n 1, 1), (19, .bipush (12), 2), (21, .iload_n 2, 1), (22, .iadd, 1), (23, .iaload, 1), (24, .ifCond .eq (16), 3), (27, .iload_n 3, 1), (28, .aload_n 1, 1), (29, .bipush (32), 2), (31, .iload_n 2, 1), (32, .iadd, 1), (33, .iaload, 1), (34, .invokestatic 227, 3), (37, .ifCond .ne (5), 3), (40, .iconst 0, 1), (41, .ireturn, 1), (42, .iconst 0, 1), (43, .istore 4, 2), (45, .iload 4, 2), (47, .aload_n 0, 1), (48, .getfield 292, 3), (51, .if_icmp .ge (22), 3), (54, .aload_n 0, 1), (55, .getfield 54, 3), (58, .iload 4, 2), (60, .iaload, 1), (61, .iload_n 2, 1), (62, .if_icmp .ne (5), 3), (65, .iconst 0, 1), (66, .ireturn, 1), (67, .iinc 4 (1), 3), (70, .goto (-25), 3), (73, .iconst 1, 1), (74, .ireturn, 1)]
set_option maxRecDepth 200000 in
theorem mo_canLine_code_ok : px_code prog_13_method_54_code mo_canLine_code = true := by decide +kernel
noncomputable def mo_canLine_orc : pC := px_orc [(180, fun a h => match a with
    | [.inr (.inl 51), .inl v1] => mo_isThing v1 h
    | _ => none), (176, fun a h => match a with
    | [.inl v0, .inl v1] => mo_has v0 v1 h
    | _ => none)]
theorem mo_canLine_orc_ok {d : Nat} : px_Or (d + 2) (mo_canLine_orc) := px_orc_ok (by
  refine px_o1 (fun a h q e => by
    dsimp only at e
    split at e
    · exact mo_isThing_ok (d := d + 0) e
    · cases e) ?_
  refine px_o1 (fun a h q e => by
    dsimp only at e
    split at e
    · exact mo_has_ok (d := d + 1) e
    · cases e) ?_
  exact px_o0)
set_option maxRecDepth 200000 in
theorem mo_canLine_40_ok {d : Nat} : ∀ (h : pH) (q : Int32 × pH), mo_canLine_40 h = some q → px_G (d + 2 + 1) (pX_RX11, prog_13_method_54_code, 5, (some .boolean)) 40 [none, none, none, none, none] [] h q := by
  intro h q e
  exact px_blk_ok (d := d + 2) (M := (pX_RX11, prog_13_method_54_code, 5, (some .boolean))) (C := mo_canLine_orc) (code := mo_canLine_code) (ld := []) (kl := []) (mo_canLine_orc_ok) pX_ok_RX11 mo_canLine_code_ok (px_k0) 50 40 _ _ h q e
set_option maxRecDepth 200000 in
theorem mo_canLine_45_ok {d : Nat} : ∀ (n : Nat) (x2 : Int32) (x4 : Int32) (h : pH) (q : Int32 × pH), mo_canLine_45 n x2 x4 h = some q → px_G (d + 2 + 1) (pX_RX11, prog_13_method_54_code, 5, (some .boolean)) 45 [some (.inr (.inl 51)), none, some (.inl x2), none, some (.inl x4)] [] h q := by
  intro n
  induction n with
  | zero =>
    intro x2 x4 h q e
    cases e
  | succ n ih =>
    intro x2 x4 h q e
    exact px_blk_ok (d := d + 2) (M := (pX_RX11, prog_13_method_54_code, 5, (some .boolean))) (C := mo_canLine_orc) (code := mo_canLine_code) (ld := [45]) (kl := [(45, fun ls st h => px_if (px_fit [61, 0, 1, 0, 1] ls && px_fits [] st) (mo_canLine_45 n (px_gi ls 2) (px_gi ls 4) h))]) (mo_canLine_orc_ok) pX_ok_RX11 mo_canLine_code_ok (px_k1 (px_ko (ts := [61, 0, 1, 0, 1]) (ss := []) fun ls st h q e => ih _ _ _ _ e) px_k0) 50 45 _ _ h q e
set_option maxRecDepth 200000 in
theorem mo_canLine_ok {d : Nat} {a1 : Nat} {x2 : Int32} {x3 : Int32} {h : pH} {q : Int32 × pH} (e : mo_canLine a1 x2 x3 h = some q) : px_Con (d + 3) 226 [.inr (.inl 51), .inr (.inl a1), .inl x2, .inl x3] h q :=
  px_con (X := pX_RX11) (b := prog_13_method_54_code) (nL := 5) (rt := (some .boolean)) rfl rfl (Nat.le_of_ble_eq_true rfl) rfl (px_blk_ok (d := d + 2) (M := (pX_RX11, prog_13_method_54_code, 5, (some .boolean))) (C := mo_canLine_orc) (code := mo_canLine_code) (ld := [45, 40]) (kl := [(45, fun ls st h => px_if (px_fit [61, 0, 1, 0, 1] ls && px_fits [] st) (mo_canLine_45 px_F (px_gi ls 2) (px_gi ls 4) h)), (40, fun ls st h => px_if (px_fit [0, 0, 0, 0, 0] ls && px_fits [] st) (mo_canLine_40 h))]) (mo_canLine_orc_ok) pX_ok_RX11 mo_canLine_code_ok (px_k1 (px_ko (ts := [61, 0, 1, 0, 1]) (ss := []) fun ls st h q e => mo_canLine_45_ok _ _ _ _ _ e) (px_k1 (px_ko (ts := [0, 0, 0, 0, 0]) (ss := []) fun ls st h q e => mo_canLine_40_ok _ _ e) px_k0)) 50 0 _ _ _ q e)
/-! WordsUnsaidModel.readLine0(III)I -/
noncomputable def mo_readLine0_140 (s0 : Int32) (h : pH) : pR :=
  some (s0, h)
noncomputable def mo_readLine0_77 (x5 : Int32) (h : pH) : pR :=
  some ((px_c (-1)) - x5, h)
noncomputable def mo_readLine0_103 (r26 : Int32 → Int32 → Int32 → Int32 → Int32 → pH → pR) (x1 : Int32) (x2 : Int32) (x3 : Int32) (x4 : Int32) (x5 : Int32) (h : pH) : pR :=
  r26 x1 x2 x3 x4 (x5 + px_c 1) h
noncomputable def mo_readLine0_26 : Nat → Int32 → Int32 → Int32 → Int32 → Int32 → pH → pR
  | 0, _, _, _, _, _, _ => none
  | n + 1, x1, x2, x3, x4, x5, h =>
    if x4 ≤ x5 then
      if x4 = 0 then
        some (px_c (-1), h)
      else
        px_bind (mo_wordsIn 52 h) fun z1 h2 =>
        px_bind (mo_distance x2 x3 h2) fun z3 h4 =>
        if z3 ≤ z1 then
          mo_readLine0_140 (px_c 0) h4
        else
          mo_readLine0_140 (px_c (-200)) h4
    else
      px_if (px_ok 1 58 x5 || px_ok 3 58 x5) <|
      let y6_5 := (h 58 x5.toNatClampNeg) - (px_c 113)
      if x5 = (px_c 6) then
        mo_readLine0_77 x5 h
      else
        px_bind (mo_in y6_5 (px_c 0) (px_c 9) h) fun z6 h7 =>
        if z6 = 0 then
          mo_readLine0_77 x5 h7
        else
          px_bind (mo_canLine 52 y6_5 x1 h7) fun z8 h9 =>
          if z8 = 0 then
            mo_readLine0_77 x5 h9
          else
            px_if (px_ok 0 65 (h9 51 30)) <|
            let h10 := px_w h9 65 (h9 51 30).toNatClampNeg y6_5
            let h11 := px_w h10 51 30 ((h10 51 30) + (px_c 1))
            mo_readLine0_103 (mo_readLine0_26 n) x1 x2 x3 x4 x5 h11
noncomputable def mo_readLine0_23 (x1 : Int32) (x2 : Int32) (x3 : Int32) (x4 : Int32) (h : pH) : pR :=
  mo_readLine0_26 px_F x1 x2 x3 x4 (px_c 0) h
noncomputable def mo_readLine0 (x1 : Int32) (x2 : Int32) (x3 : Int32) (h : pH) : pR :=
  let y4_1 := h 51 11
  let h2 := px_w h 51 11 (px_c 0)
  if x1 = 0 then
    some (px_c (-100), h2)
  else
    let h3 := px_w h2 51 30 (px_c 0)
    mo_readLine0_23 x1 x2 x3 y4_1 h3
def mo_readLine0_code : pCode := [(0, .aload_n 0, 1), (1, .getfield 129, 3), (4, .istore 4, 2), (6, .aload_n 0, 1), (7, .iconst 0, 1), (8, .putfield 129, 3), (11, .iload_n 1, 1), (12, .ifCond .ne (6), 3), (15, .bipush (-100), 2), (17, .ireturn, 1), (18, .aload_n 0, 1), (19, .iconst 0, 1), (20, .putfield 292, 3), (23, .iconst 0, 1), (24, .istore 5, 2), (26, .iload 5, 2), (28, .iload 4, 2), (30, .if_icmp .ge (79), 3), (33, .aload_n 0, 1), (34, .getfield 32, 3), (37, .iload 5, 2), (39, .baload, 1), (40, .bipush (113), 2), (42, .isub, 1), (43, .istore 6, 2), (45, .iload 5, 2), (47, .bipush (6), 2), (49, .if_icmp .eq (28), 3), (52, .iload 6, 2), (54, .iconst 0, 1), (55, .bipush (9), 2), (57, .invokestatic 115, 3), (60, .ifCond .eq (17), 3), (63, .aload_n 0, 1), (64, .aload_n 0, 1), (65, .getfield 9, 3), (68, .iload 6, 2), (70, .iload_n 1, 1), (71, .invokevirtual 305, 3), (74, .ifCond .ne (8), 3), (77, .iconst (-1), 1), (78, .iload 5, 2), (80, .isub, 1), (81, .ireturn, 1), (82, .aload_n 0, 1), (83, .getfield 54, 3), (86, .aload_n 0, 1), (87, .getfield 292, 3), (90, .iload 6, 2), (92, .iastore, 1), (93, .aload_n 0, 1), (94, .dup, 1), (95, .getfield 292, 3), (98, .iconst 1, 1), (99, .iadd, 1), (100, .putfield 292, 3), (103, .iinc 5 (1), 3), (106, .goto (-80), 3), (109, .iload 4, 2), (111, .ifCond .ne (5), 3), (114, .iconst (-1), 1), (115, .ireturn, 1), (116, .aload_n 0, 1), (117, .aload_n 0, 1), (118, .getfield 9, 3), (121, .invokevirtual 309, 3), (124, .aload_n 0, 1), (125, .iload_n 2, 1), (126, .iload_n 3, 1), (127, .invokevirtual 268, 3), (130, .if_icmp .ge (9), 3), (133, .sipush (-200), 3), (136, .goto (4), 3), (139, .iconst 0, 1), (140, .ireturn, 1)]
set_option maxRecDepth 200000 in
theorem mo_readLine0_code_ok : px_code prog_13_method_55_code mo_readLine0_code = true := by decide +kernel
noncomputable def mo_readLine0_orc : pC := px_orc [(222, fun a h => match a with
    | [.inr (.inl 51), .inr (.inl v1)] => mo_wordsIn v1 h
    | _ => none), (218, fun a h => match a with
    | [.inr (.inl 51), .inl v1, .inl v2] => mo_distance v1 v2 h
    | _ => none), (175, fun a h => match a with
    | [.inl v0, .inl v1, .inl v2] => mo_in v0 v1 v2 h
    | _ => none), (226, fun a h => match a with
    | [.inr (.inl 51), .inr (.inl v1), .inl v2, .inl v3] => mo_canLine v1 v2 v3 h
    | _ => none)]
theorem mo_readLine0_orc_ok {d : Nat} : px_Or (d + 3) (mo_readLine0_orc) := px_orc_ok (by
  refine px_o1 (fun a h q e => by
    dsimp only at e
    split at e
    · exact mo_wordsIn_ok (d := d + 2) e
    · cases e) ?_
  refine px_o1 (fun a h q e => by
    dsimp only at e
    split at e
    · exact mo_distance_ok (d := d + 1) e
    · cases e) ?_
  refine px_o1 (fun a h q e => by
    dsimp only at e
    split at e
    · exact mo_in_ok (d := d + 2) e
    · cases e) ?_
  refine px_o1 (fun a h q e => by
    dsimp only at e
    split at e
    · exact mo_canLine_ok (d := d + 0) e
    · cases e) ?_
  exact px_o0)
set_option maxRecDepth 200000 in
theorem mo_readLine0_140_ok {d : Nat} : ∀ (s0 : Int32) (h : pH) (q : Int32 × pH), mo_readLine0_140 s0 h = some q → px_G (d + 3 + 1) (pX_RX11, prog_13_method_55_code, 7, (some .int)) 140 [none, none, none, none, none, none, none] [.inl s0] h q := by
  intro s0 h q e
  exact px_blk_ok (d := d + 3) (M := (pX_RX11, prog_13_method_55_code, 7, (some .int))) (C := mo_readLine0_orc) (code := mo_readLine0_code) (ld := []) (kl := []) (mo_readLine0_orc_ok) pX_ok_RX11 mo_readLine0_code_ok (px_k0) 80 140 _ _ h q e
set_option maxRecDepth 200000 in
theorem mo_readLine0_77_ok {d : Nat} : ∀ (x5 : Int32) (h : pH) (q : Int32 × pH), mo_readLine0_77 x5 h = some q → px_G (d + 3 + 1) (pX_RX11, prog_13_method_55_code, 7, (some .int)) 77 [none, none, none, none, none, some (.inl x5), none] [] h q := by
  intro x5 h q e
  exact px_blk_ok (d := d + 3) (M := (pX_RX11, prog_13_method_55_code, 7, (some .int))) (C := mo_readLine0_orc) (code := mo_readLine0_code) (ld := []) (kl := []) (mo_readLine0_orc_ok) pX_ok_RX11 mo_readLine0_code_ok (px_k0) 80 77 _ _ h q e
set_option maxRecDepth 200000 in
theorem mo_readLine0_103_ok {d : Nat} {r26 : Int32 → Int32 → Int32 → Int32 → Int32 → pH → pR} (hr26 : ∀ (x1 : Int32) (x2 : Int32) (x3 : Int32) (x4 : Int32) (x5 : Int32) (h : pH) (q : Int32 × pH), r26 x1 x2 x3 x4 x5 h = some q → px_G (d + 3 + 1) (pX_RX11, prog_13_method_55_code, 7, (some .int)) 26 [some (.inr (.inl 51)), some (.inl x1), some (.inl x2), some (.inl x3), some (.inl x4), some (.inl x5), none] [] h q) : ∀ (x1 : Int32) (x2 : Int32) (x3 : Int32) (x4 : Int32) (x5 : Int32) (h : pH) (q : Int32 × pH), mo_readLine0_103 r26 x1 x2 x3 x4 x5 h = some q → px_G (d + 3 + 1) (pX_RX11, prog_13_method_55_code, 7, (some .int)) 103 [some (.inr (.inl 51)), some (.inl x1), some (.inl x2), some (.inl x3), some (.inl x4), some (.inl x5), none] [] h q := by
  intro x1 x2 x3 x4 x5 h q e
  exact px_blk_ok (d := d + 3) (M := (pX_RX11, prog_13_method_55_code, 7, (some .int))) (C := mo_readLine0_orc) (code := mo_readLine0_code) (ld := [26]) (kl := [(26, fun ls st h => px_if (px_fit [61, 1, 1, 1, 1, 1, 0] ls && px_fits [] st) (r26 (px_gi ls 1) (px_gi ls 2) (px_gi ls 3) (px_gi ls 4) (px_gi ls 5) h))]) (mo_readLine0_orc_ok) pX_ok_RX11 mo_readLine0_code_ok (px_k1 (px_ko (ts := [61, 1, 1, 1, 1, 1, 0]) (ss := []) fun ls st h q e => hr26 _ _ _ _ _ _ _ e) px_k0) 80 103 _ _ h q e
set_option maxRecDepth 200000 in
theorem mo_readLine0_26_ok {d : Nat} : ∀ (n : Nat) (x1 : Int32) (x2 : Int32) (x3 : Int32) (x4 : Int32) (x5 : Int32) (h : pH) (q : Int32 × pH), mo_readLine0_26 n x1 x2 x3 x4 x5 h = some q → px_G (d + 3 + 1) (pX_RX11, prog_13_method_55_code, 7, (some .int)) 26 [some (.inr (.inl 51)), some (.inl x1), some (.inl x2), some (.inl x3), some (.inl x4), some (.inl x5), none] [] h q := by
  intro n
  induction n with
  | zero =>
    intro x1 x2 x3 x4 x5 h q e
    cases e
  | succ n ih =>
    intro x1 x2 x3 x4 x5 h q e
    exact px_blk_ok (d := d + 3) (M := (pX_RX11, prog_13_method_55_code, 7, (some .int))) (C := mo_readLine0_orc) (code := mo_readLine0_code) (ld := [103, 77, 140]) (kl := [(103, fun ls st h => px_if (px_fit [61, 1, 1, 1, 1, 1, 0] ls && px_fits [] st) (mo_readLine0_103 (mo_readLine0_26 n) (px_gi ls 1) (px_gi ls 2) (px_gi ls 3) (px_gi ls 4) (px_gi ls 5) h)), (77, fun ls st h => px_if (px_fit [0, 0, 0, 0, 0, 1, 0] ls && px_fits [] st) (mo_readLine0_77 (px_gi ls 5) h)), (140, fun ls st h => px_if (px_fit [0, 0, 0, 0, 0, 0, 0] ls && px_fits [1] st) (mo_readLine0_140 (px_si st 0) h))]) (mo_readLine0_orc_ok) pX_ok_RX11 mo_readLine0_code_ok (px_k1 (px_ko (ts := [61, 1, 1, 1, 1, 1, 0]) (ss := []) fun ls st h q e => mo_readLine0_103_ok ih _ _ _ _ _ _ _ e) (px_k1 (px_ko (ts := [0, 0, 0, 0, 0, 1, 0]) (ss := []) fun ls st h q e => mo_readLine0_77_ok _ _ _ e) (px_k1 (px_ko (ts := [0, 0, 0, 0, 0, 0, 0]) (ss := [1]) fun ls st h q e => mo_readLine0_140_ok _ _ _ e) px_k0))) 80 26 _ _ h q e
set_option maxRecDepth 200000 in
theorem mo_readLine0_23_ok {d : Nat} : ∀ (x1 : Int32) (x2 : Int32) (x3 : Int32) (x4 : Int32) (h : pH) (q : Int32 × pH), mo_readLine0_23 x1 x2 x3 x4 h = some q → px_G (d + 3 + 1) (pX_RX11, prog_13_method_55_code, 7, (some .int)) 23 [some (.inr (.inl 51)), some (.inl x1), some (.inl x2), some (.inl x3), some (.inl x4), none, none] [] h q := by
  intro x1 x2 x3 x4 h q e
  exact px_blk_ok (d := d + 3) (M := (pX_RX11, prog_13_method_55_code, 7, (some .int))) (C := mo_readLine0_orc) (code := mo_readLine0_code) (ld := [26]) (kl := [(26, fun ls st h => px_if (px_fit [61, 1, 1, 1, 1, 1, 0] ls && px_fits [] st) (mo_readLine0_26 px_F (px_gi ls 1) (px_gi ls 2) (px_gi ls 3) (px_gi ls 4) (px_gi ls 5) h))]) (mo_readLine0_orc_ok) pX_ok_RX11 mo_readLine0_code_ok (px_k1 (px_ko (ts := [61, 1, 1, 1, 1, 1, 0]) (ss := []) fun ls st h q e => mo_readLine0_26_ok _ _ _ _ _ _ _ _ e) px_k0) 80 23 _ _ h q e
set_option maxRecDepth 200000 in
theorem mo_readLine0_ok {d : Nat} {x1 : Int32} {x2 : Int32} {x3 : Int32} {h : pH} {q : Int32 × pH} (e : mo_readLine0 x1 x2 x3 h = some q) : px_Con (d + 4) 227 [.inr (.inl 51), .inl x1, .inl x2, .inl x3] h q :=
  px_con (X := pX_RX11) (b := prog_13_method_55_code) (nL := 7) (rt := (some .int)) rfl rfl (Nat.le_of_ble_eq_true rfl) rfl (px_blk_ok (d := d + 3) (M := (pX_RX11, prog_13_method_55_code, 7, (some .int))) (C := mo_readLine0_orc) (code := mo_readLine0_code) (ld := [23]) (kl := [(23, fun ls st h => px_if (px_fit [61, 1, 1, 1, 1, 0, 0] ls && px_fits [] st) (mo_readLine0_23 (px_gi ls 1) (px_gi ls 2) (px_gi ls 3) (px_gi ls 4) h))]) (mo_readLine0_orc_ok) pX_ok_RX11 mo_readLine0_code_ok (px_k1 (px_ko (ts := [61, 1, 1, 1, 1, 0, 0]) (ss := []) fun ls st h q e => mo_readLine0_23_ok _ _ _ _ _ _ e) px_k0) 80 0 _ _ _ q e)
/-! WordsUnsaidModel.tellCross([II)V -/
noncomputable def mo_tellCross (a1 : Nat) (x2 : Int32) (h : pH) : pR :=
  let h1 := px_w h 51 13 (px_c 0)
  px_if (px_ok 0 a1 x2) <|
  px_bind (mo_tell (h1 a1 x2.toNatClampNeg) h1) fun _ h3 =>
  px_bind (mo_tell (h3 51 32) h3) fun _ h5 =>
  px_bind (mo_tell (h5 51 31) h5) fun _ h7 =>
  some (0, h7)
def mo_tellCross_code : pCode := [(0, .aload_n 0, 1), (1, .iconst 0, 1), (2, .putfield 109, 3), (5, .aload_n 0, 1), (6, .aload_n 1, 1), (7, .iload_n 2, 1), (8, .iaload, 1), (9, .invokevirtual 312, 3), (12, .aload_n 0, 1), (13, .aload_n 0, 1), (14, .getfield 274, 3), (17, .invokevirtual 312, 3), (20, .aload_n 0, 1), (21, .aload_n 0, 1), (22, .getfield 271, 3), (25, .invokevirtual 312, 3), (28, .return_, 1)]
set_option maxRecDepth 200000 in
theorem mo_tellCross_code_ok : px_code prog_13_method_56_code mo_tellCross_code = true := by decide +kernel
noncomputable def mo_tellCross_orc : pC := px_orc [(178, fun a h => match a with
    | [.inr (.inl 51), .inl v1] => mo_tell v1 h
    | _ => none)]
theorem mo_tellCross_orc_ok {d : Nat} : px_Or (d + 1) (mo_tellCross_orc) := px_orc_ok (by
  refine px_o1 (fun a h q e => by
    dsimp only at e
    split at e
    · exact mo_tell_ok (d := d + 0) e
    · cases e) ?_
  exact px_o0)
set_option maxRecDepth 200000 in
theorem mo_tellCross_ok {d : Nat} {a1 : Nat} {x2 : Int32} {h : pH} {q : Int32 × pH} (e : mo_tellCross a1 x2 h = some q) : px_Con (d + 2) 228 [.inr (.inl 51), .inr (.inl a1), .inl x2] h q :=
  px_con (X := pX_RX11) (b := prog_13_method_56_code) (nL := 3) (rt := none) rfl rfl (Nat.le_of_ble_eq_true rfl) rfl (px_blk_ok (d := d + 1) (M := (pX_RX11, prog_13_method_56_code, 3, none)) (C := mo_tellCross_orc) (code := mo_tellCross_code) (ld := []) (kl := []) (mo_tellCross_orc_ok) pX_ok_RX11 mo_tellCross_code_ok (px_k0) 22 0 _ _ _ q e)
/-! WordsUnsaidModel.cross(III)I -/
noncomputable def mo_cross_32 (x1 : Int32) (x3 : Int32) (x4 : Int32) (s0 : Int32) (s1 : Int32) (h : pH) : pR :=
  px_bind (mo_readLine0 s1 s0 x3 h) fun z1 h2 =>
  if 0 ≤ z1 then
    px_bind (mo_remember 52 h2) fun _ h4 =>
    px_if (px_ok 0 52 x1) <|
    px_bind (mo_goes 52 x4 (h4 52 x1.toNatClampNeg) x3 h4) fun z5 h6 =>
    px_bind (mo_tellCross 52 x1 h6) fun _ h8 =>
    some (h8 51 31, h8)
  else
    some (z1, h2)
noncomputable def mo_cross (x1 : Int32) (x2 : Int32) (x3 : Int32) (h : pH) : pR :=
  let h1 := px_w h 51 14 (px_c 0)
  px_bind (mo_aboardOf x1 x2 x3 h1) fun z2 h3 =>
  if z2 = 0 then
    mo_cross_32 x1 x3 z2 (px_c 0) z2 h3
  else
    px_if (px_ok 0 52 x1) <|
    mo_cross_32 x1 x3 z2 (h3 52 x1.toNatClampNeg) z2 h3
def mo_cross_code : pCode := [(0, .aload_n 0, 1), (1, .iconst 0, 1), (2, .putfield 106, 3), (5, .aload_n 0, 1), (6, .iload_n 1, 1), (7, .iload_n 2, 1), (8, .iload_n 3, 1), (9, .invokevirtual 315, 3), (12, .istore 4, 2), (14, .aload_n 0, 1), (15, .iload 4, 2), (17, .iload 4, 2), (19, .ifCond .ne (7), 3), (22, .iconst 0, 1), (23, .goto (9), 3), (26, .aload_n 0, 1), (27, .getfield 9, 3), (30, .iload_n 1, 1), (31, .iaload, 1), (32, .iload_n 3, 1), (33, .invokevirtual 319, 3), (36, .istore 5, 2), (38, .iload 5, 2), (40, .ifCond .ge (6), 3), (43, .iload 5, 2), (45, .ireturn, 1), (46, .aload_n 0, 1), (47, .aload_n 0, 1), (48, .getfield 9, 3), (51, .invokevirtual 322, 3), (54, .aload_n 0, 1), (55, .aload_n 0, 1), (56, .getfield 9, 3), (59, .iload 4, 2), (61, .aload_n 0, 1), (62, .getfield 9, 3), (65, .iload_n 1, 1), (66, .iaload, 1), (67, .iload_n 3, 1), (68, .invokevirtual 326, 3), (71, .pop, 1), (72, .aload_n 0, 1), (73, .aload_n 0, 1), (74, .getfield 9, 3), (77, .iload_n 1, 1), (78, .invokevirtual 330, 3), (81, .aload_n 0, 1), (82, .getfield 271, 3), (85, .ireturn, 1)]
set_option maxRecDepth 200000 in
theorem mo_cross_code_ok : px_code prog_13_method_57_code mo_cross_code = true := by decide +kernel
noncomputable def mo_cross_orc : pC := px_orc [(227, fun a h => match a with
    | [.inr (.inl 51), .inl v1, .inl v2, .inl v3] => mo_readLine0 v1 v2 v3 h
    | _ => none), (224, fun a h => match a with
    | [.inr (.inl 51), .inr (.inl v1)] => mo_remember v1 h
    | _ => none), (219, fun a h => match a with
    | [.inr (.inl 51), .inr (.inl v1), .inl v2, .inl v3, .inl v4] => mo_goes v1 v2 v3 v4 h
    | _ => none), (228, fun a h => match a with
    | [.inr (.inl 51), .inr (.inl v1), .inl v2] => mo_tellCross v1 v2 h
    | _ => none), (225, fun a h => match a with
    | [.inr (.inl 51), .inl v1, .inl v2, .inl v3] => mo_aboardOf v1 v2 v3 h
    | _ => none)]
theorem mo_cross_orc_ok {d : Nat} : px_Or (d + 106) (mo_cross_orc) := px_orc_ok (by
  refine px_o1 (fun a h q e => by
    dsimp only at e
    split at e
    · exact mo_readLine0_ok (d := d + 102) e
    · cases e) ?_
  refine px_o1 (fun a h q e => by
    dsimp only at e
    split at e
    · exact mo_remember_ok (d := d + 104) e
    · cases e) ?_
  refine px_o1 (fun a h q e => by
    dsimp only at e
    split at e
    · exact mo_goes_ok (d := d + 0) e
    · cases e) ?_
  refine px_o1 (fun a h q e => by
    dsimp only at e
    split at e
    · exact mo_tellCross_ok (d := d + 104) e
    · cases e) ?_
  refine px_o1 (fun a h q e => by
    dsimp only at e
    split at e
    · exact mo_aboardOf_ok (d := d + 102) e
    · cases e) ?_
  exact px_o0)
set_option maxRecDepth 200000 in
theorem mo_cross_32_ok {d : Nat} : ∀ (x1 : Int32) (x3 : Int32) (x4 : Int32) (s0 : Int32) (s1 : Int32) (h : pH) (q : Int32 × pH), mo_cross_32 x1 x3 x4 s0 s1 h = some q → px_G (d + 106 + 1) (pX_RX11, prog_13_method_57_code, 6, (some .int)) 32 [some (.inr (.inl 51)), some (.inl x1), none, some (.inl x3), some (.inl x4), none] [.inl s0, .inl s1, .inr (.inl 51)] h q := by
  intro x1 x3 x4 s0 s1 h q e
  exact px_blk_ok (d := d + 106) (M := (pX_RX11, prog_13_method_57_code, 6, (some .int))) (C := mo_cross_orc) (code := mo_cross_code) (ld := []) (kl := []) (mo_cross_orc_ok) pX_ok_RX11 mo_cross_code_ok (px_k0) 54 32 _ _ h q e
set_option maxRecDepth 200000 in
theorem mo_cross_ok {d : Nat} {x1 : Int32} {x2 : Int32} {x3 : Int32} {h : pH} {q : Int32 × pH} (e : mo_cross x1 x2 x3 h = some q) : px_Con (d + 107) 229 [.inr (.inl 51), .inl x1, .inl x2, .inl x3] h q :=
  px_con (X := pX_RX11) (b := prog_13_method_57_code) (nL := 6) (rt := (some .int)) rfl rfl (Nat.le_of_ble_eq_true rfl) rfl (px_blk_ok (d := d + 106) (M := (pX_RX11, prog_13_method_57_code, 6, (some .int))) (C := mo_cross_orc) (code := mo_cross_code) (ld := [32]) (kl := [(32, fun ls st h => px_if (px_fit [61, 1, 0, 1, 1, 0] ls && px_fits [1, 1, 61] st) (mo_cross_32 (px_gi ls 1) (px_gi ls 3) (px_gi ls 4) (px_si st 0) (px_si st 1) h))]) (mo_cross_orc_ok) pX_ok_RX11 mo_cross_code_ok (px_k1 (px_ko (ts := [61, 1, 0, 1, 1, 0]) (ss := [1, 1, 61]) fun ls st h q e => mo_cross_32_ok _ _ _ _ _ _ _ e) px_k0) 54 0 _ _ _ q e)
/-! WordsUnsaidModel.look(III)I -/
noncomputable def mo_look_32 (x1 : Int32) (x3 : Int32) (x4 : Int32) (s0 : Int32) (s1 : Int32) (h : pH) : pR :=
  px_bind (mo_readLine0 s1 s0 x3 h) fun z1 h2 =>
  if 0 ≤ z1 then
    px_bind (mo_lay 52 68 (px_c 0) h2) fun _ h4 =>
    px_if (px_ok 0 52 x1) <|
    px_bind (mo_goes 68 x4 (h4 52 x1.toNatClampNeg) x3 h4) fun z5 h6 =>
    px_bind (mo_tellCross 68 x1 h6) fun _ h8 =>
    some (h8 51 31, h8)
  else
    some (z1, h2)
noncomputable def mo_look (x1 : Int32) (x2 : Int32) (x3 : Int32) (h : pH) : pR :=
  let h1 := px_w h 51 14 (px_c 0)
  px_bind (mo_aboardOf x1 x2 x3 h1) fun z2 h3 =>
  if z2 = 0 then
    mo_look_32 x1 x3 z2 (px_c 0) z2 h3
  else
    px_if (px_ok 0 52 x1) <|
    mo_look_32 x1 x3 z2 (h3 52 x1.toNatClampNeg) z2 h3
def mo_look_code : pCode := [(0, .aload_n 0, 1), (1, .iconst 0, 1), (2, .putfield 106, 3), (5, .aload_n 0, 1), (6, .iload_n 1, 1), (7, .iload_n 2, 1), (8, .iload_n 3, 1), (9, .invokevirtual 315, 3), (12, .istore 4, 2), (14, .aload_n 0, 1), (15, .iload 4, 2), (17, .iload 4, 2), (19, .ifCond .ne (7), 3), (22, .iconst 0, 1), (23, .goto (9), 3), (26, .aload_n 0, 1), (27, .getfield 9, 3), (30, .iload_n 1, 1), (31, .iaload, 1), (32, .iload_n 3, 1), (33, .invokevirtual 319, 3), (36, .istore 5, 2), (38, .iload 5, 2), (40, .ifCond .ge (6), 3), (43, .iload 5, 2), (45, .ireturn, 1), (46, .aload_n 0, 1), (47, .getfield 9, 3), (50, .aload_n 0, 1), (51, .getfield 63, 3), (54, .iconst 0, 1), (55, .invokestatic 295, 3), (58, .aload_n 0, 1), (59, .aload_n 0, 1), (60, .getfield 63, 3), (63, .iload 4, 2), (65, .aload_n 0, 1), (66, .getfield 9, 3), (69, .iload_n 1, 1), (70, .iaload, 1), (71, .iload_n 3, 1), (72, .invokevirtual 326, 3), (75, .pop, 1), (76, .aload_n 0, 1), (77, .aload_n 0, 1), (78, .getfield 63, 3), (81, .iload_n 1, 1), (82, .invokevirtual 330, 3), (85, .aload_n 0, 1), (86, .getfield 271, 3), (89, .ireturn, 1)]
set_option maxRecDepth 200000 in
theorem mo_look_code_ok : px_code prog_13_method_58_code mo_look_code = true := by decide +kernel
noncomputable def mo_look_orc : pC := px_orc [(227, fun a h => match a with
    | [.inr (.inl 51), .inl v1, .inl v2, .inl v3] => mo_readLine0 v1 v2 v3 h
    | _ => none), (223, fun a h => match a with
    | [.inr (.inl v0), .inr (.inl v1), .inl v2] => mo_lay v0 v1 v2 h
    | _ => none), (219, fun a h => match a with
    | [.inr (.inl 51), .inr (.inl v1), .inl v2, .inl v3, .inl v4] => mo_goes v1 v2 v3 v4 h
    | _ => none), (228, fun a h => match a with
    | [.inr (.inl 51), .inr (.inl v1), .inl v2] => mo_tellCross v1 v2 h
    | _ => none), (225, fun a h => match a with
    | [.inr (.inl 51), .inl v1, .inl v2, .inl v3] => mo_aboardOf v1 v2 v3 h
    | _ => none)]
theorem mo_look_orc_ok {d : Nat} : px_Or (d + 106) (mo_look_orc) := px_orc_ok (by
  refine px_o1 (fun a h q e => by
    dsimp only at e
    split at e
    · exact mo_readLine0_ok (d := d + 102) e
    · cases e) ?_
  refine px_o1 (fun a h q e => by
    dsimp only at e
    split at e
    · exact mo_lay_ok (d := d + 105) e
    · cases e) ?_
  refine px_o1 (fun a h q e => by
    dsimp only at e
    split at e
    · exact mo_goes_ok (d := d + 0) e
    · cases e) ?_
  refine px_o1 (fun a h q e => by
    dsimp only at e
    split at e
    · exact mo_tellCross_ok (d := d + 104) e
    · cases e) ?_
  refine px_o1 (fun a h q e => by
    dsimp only at e
    split at e
    · exact mo_aboardOf_ok (d := d + 102) e
    · cases e) ?_
  exact px_o0)
set_option maxRecDepth 200000 in
theorem mo_look_32_ok {d : Nat} : ∀ (x1 : Int32) (x3 : Int32) (x4 : Int32) (s0 : Int32) (s1 : Int32) (h : pH) (q : Int32 × pH), mo_look_32 x1 x3 x4 s0 s1 h = some q → px_G (d + 106 + 1) (pX_RX11, prog_13_method_58_code, 6, (some .int)) 32 [some (.inr (.inl 51)), some (.inl x1), none, some (.inl x3), some (.inl x4), none] [.inl s0, .inl s1, .inr (.inl 51)] h q := by
  intro x1 x3 x4 s0 s1 h q e
  exact px_blk_ok (d := d + 106) (M := (pX_RX11, prog_13_method_58_code, 6, (some .int))) (C := mo_look_orc) (code := mo_look_code) (ld := []) (kl := []) (mo_look_orc_ok) pX_ok_RX11 mo_look_code_ok (px_k0) 56 32 _ _ h q e
set_option maxRecDepth 200000 in
theorem mo_look_ok {d : Nat} {x1 : Int32} {x2 : Int32} {x3 : Int32} {h : pH} {q : Int32 × pH} (e : mo_look x1 x2 x3 h = some q) : px_Con (d + 107) 230 [.inr (.inl 51), .inl x1, .inl x2, .inl x3] h q :=
  px_con (X := pX_RX11) (b := prog_13_method_58_code) (nL := 6) (rt := (some .int)) rfl rfl (Nat.le_of_ble_eq_true rfl) rfl (px_blk_ok (d := d + 106) (M := (pX_RX11, prog_13_method_58_code, 6, (some .int))) (C := mo_look_orc) (code := mo_look_code) (ld := [32]) (kl := [(32, fun ls st h => px_if (px_fit [61, 1, 0, 1, 1, 0] ls && px_fits [1, 1, 61] st) (mo_look_32 (px_gi ls 1) (px_gi ls 3) (px_gi ls 4) (px_si st 0) (px_si st 1) h))]) (mo_look_orc_ok) pX_ok_RX11 mo_look_code_ok (px_k1 (px_ko (ts := [61, 1, 0, 1, 1, 0]) (ss := [1, 1, 61]) fun ls st h q e => mo_look_32_ok _ _ _ _ _ _ _ e) px_k0) 56 0 _ _ _ q e)
/-! WordsUnsaidModel.refusesSay(II)I -/
noncomputable def mo_refusesSay_29 (h : pH) : pR :=
  some (px_c (-1), h)
noncomputable def mo_refusesSay_83 (s0 : Int32) (h : pH) : pR :=
  some (s0, h)
noncomputable def mo_refusesSay_82 (h : pH) : pR :=
  mo_refusesSay_83 (px_c 0) h
noncomputable def mo_refusesSay (x1 : Int32) (x2 : Int32) (h : pH) : pR :=
  px_bind (mo_isPerson x1 h) fun z1 h2 =>
  if z1 = 0 then
    mo_refusesSay_29 h2
  else
    px_bind (mo_isThing x2 h2) fun z3 h4 =>
    if z3 = 0 then
      mo_refusesSay_29 h4
    else
      px_if (px_ok 0 52 ((px_c 32) + x2)) <|
      if (h4 52 ((px_c 32) + x2).toNatClampNeg) = x1 then
        px_if (px_ok 0 52 ((px_c 22) + x2)) <|
        if (h4 52 ((px_c 22) + x2).toNatClampNeg) = (px_c 1) then
          some (px_c (-3), h4)
        else
          px_if (px_ok 0 57 x2) <|
          if (h4 57 x2.toNatClampNeg) = (px_c (-1)) then
            mo_refusesSay_82 h4
          else
            px_if (px_ok 0 57 x2) <|
            px_if (px_ok 0 52 (h4 57 x2.toNatClampNeg)) <|
            px_if (px_ok 0 52 x1) <|
            if (h4 52 (h4 57 x2.toNatClampNeg).toNatClampNeg) = (h4 52 x1.toNatClampNeg) then
              mo_refusesSay_83 (px_c (-2)) h4
            else
              mo_refusesSay_82 h4
      else
        mo_refusesSay_29 h4
def mo_refusesSay_code : pCode := [(0, .aload_n 0, 1), (1, .iload_n 1, 1), (2, .invokevirtual 122, 3), (5, .ifCond .eq (24), 3), (8, .aload_n 0, 1), (9, .iload_n 2, 1), (10, .invokevirtual 251, 3), (13, .ifCond .eq (16), 3), (16, .aload_n 0, 1), (17, .getfield 9, 3), (20, .bipush (32), 2), (22, .iload_n 2, 1), (23, .iadd, 1), (24, .iaload, 1), (25, .iload_n 1, 1), (26, .if_icmp .eq (5), 3), (29, .iconst (-1), 1), (30, .ireturn, 1), (31, .aload_n 0, 1), (32, .getfield 9, 3), (35, .bipush (22), 2), (37, .iload_n 2, 1), (38, .iadd, 1), (39, .iaload, 1), (40, .iconst 1, 1), (41, .if_icmp .ne (6), 3), (44, .bipush (-3), 2), (46, .ireturn, 1), (47, .aload_n 0, 1), (48, .getfield 29, 3), (51, .iload_n 2, 1), (52, .iaload, 1), (53, .iconst (-1), 1), (54, .if_icmp .eq (28), 3), (57, .aload_n 0, 1), (58, .getfield 9, 3), (61, .aload_n 0, 1), (62, .getfield 29, 3), (65, .iload_n 2, 1), (66, .iaload, 1), (67, .iaload, 1), (68, .aload_n 0, 1), (69, .getfield 9, 3), (72, .iload_n 1, 1), (73, .iaload, 1), (74, .if_icmp .ne (8), 3), (77, .bipush (-2), 2), (79, .goto (4), 3), (82, .iconst 0, 1), (83, .ireturn, 1)]
set_option maxRecDepth 200000 in
theorem mo_refusesSay_code_ok : px_code prog_13_method_59_code mo_refusesSay_code = true := by decide +kernel
noncomputable def mo_refusesSay_orc : pC := px_orc [(179, fun a h => match a with
    | [.inr (.inl 51), .inl v1] => mo_isPerson v1 h
    | _ => none), (180, fun a h => match a with
    | [.inr (.inl 51), .inl v1] => mo_isThing v1 h
    | _ => none)]
theorem mo_refusesSay_orc_ok {d : Nat} : px_Or (d + 2) (mo_refusesSay_orc) := px_orc_ok (by
  refine px_o1 (fun a h q e => by
    dsimp only at e
    split at e
    · exact mo_isPerson_ok (d := d + 0) e
    · cases e) ?_
  refine px_o1 (fun a h q e => by
    dsimp only at e
    split at e
    · exact mo_isThing_ok (d := d + 0) e
    · cases e) ?_
  exact px_o0)
set_option maxRecDepth 200000 in
theorem mo_refusesSay_29_ok {d : Nat} : ∀ (h : pH) (q : Int32 × pH), mo_refusesSay_29 h = some q → px_G (d + 2 + 1) (pX_RX11, prog_13_method_59_code, 3, (some .int)) 29 [none, none, none] [] h q := by
  intro h q e
  exact px_blk_ok (d := d + 2) (M := (pX_RX11, prog_13_method_59_code, 3, (some .int))) (C := mo_refusesSay_orc) (code := mo_refusesSay_code) (ld := []) (kl := []) (mo_refusesSay_orc_ok) pX_ok_RX11 mo_refusesSay_code_ok (px_k0) 55 29 _ _ h q e
set_option maxRecDepth 200000 in
theorem mo_refusesSay_83_ok {d : Nat} : ∀ (s0 : Int32) (h : pH) (q : Int32 × pH), mo_refusesSay_83 s0 h = some q → px_G (d + 2 + 1) (pX_RX11, prog_13_method_59_code, 3, (some .int)) 83 [none, none, none] [.inl s0] h q := by
  intro s0 h q e
  exact px_blk_ok (d := d + 2) (M := (pX_RX11, prog_13_method_59_code, 3, (some .int))) (C := mo_refusesSay_orc) (code := mo_refusesSay_code) (ld := []) (kl := []) (mo_refusesSay_orc_ok) pX_ok_RX11 mo_refusesSay_code_ok (px_k0) 55 83 _ _ h q e
set_option maxRecDepth 200000 in
theorem mo_refusesSay_82_ok {d : Nat} : ∀ (h : pH) (q : Int32 × pH), mo_refusesSay_82 h = some q → px_G (d + 2 + 1) (pX_RX11, prog_13_method_59_code, 3, (some .int)) 82 [none, none, none] [] h q := by
  intro h q e
  exact px_blk_ok (d := d + 2) (M := (pX_RX11, prog_13_method_59_code, 3, (some .int))) (C := mo_refusesSay_orc) (code := mo_refusesSay_code) (ld := [83]) (kl := [(83, fun ls st h => px_if (px_fit [0, 0, 0] ls && px_fits [1] st) (mo_refusesSay_83 (px_si st 0) h))]) (mo_refusesSay_orc_ok) pX_ok_RX11 mo_refusesSay_code_ok (px_k1 (px_ko (ts := [0, 0, 0]) (ss := [1]) fun ls st h q e => mo_refusesSay_83_ok _ _ _ e) px_k0) 55 82 _ _ h q e
set_option maxRecDepth 200000 in
theorem mo_refusesSay_ok {d : Nat} {x1 : Int32} {x2 : Int32} {h : pH} {q : Int32 × pH} (e : mo_refusesSay x1 x2 h = some q) : px_Con (d + 3) 231 [.inr (.inl 51), .inl x1, .inl x2] h q :=
  px_con (X := pX_RX11) (b := prog_13_method_59_code) (nL := 3) (rt := (some .int)) rfl rfl (Nat.le_of_ble_eq_true rfl) rfl (px_blk_ok (d := d + 2) (M := (pX_RX11, prog_13_method_59_code, 3, (some .int))) (C := mo_refusesSay_orc) (code := mo_refusesSay_code) (ld := [82, 83, 29]) (kl := [(82, fun ls st h => px_if (px_fit [0, 0, 0] ls && px_fits [] st) (mo_refusesSay_82 h)), (83, fun ls st h => px_if (px_fit [0, 0, 0] ls && px_fits [1] st) (mo_refusesSay_83 (px_si st 0) h)), (29, fun ls st h => px_if (px_fit [0, 0, 0] ls && px_fits [] st) (mo_refusesSay_29 h))]) (mo_refusesSay_orc_ok) pX_ok_RX11 mo_refusesSay_code_ok (px_k1 (px_ko (ts := [0, 0, 0]) (ss := []) fun ls st h q e => mo_refusesSay_82_ok _ _ e) (px_k1 (px_ko (ts := [0, 0, 0]) (ss := [1]) fun ls st h q e => mo_refusesSay_83_ok _ _ _ e) (px_k1 (px_ko (ts := [0, 0, 0]) (ss := []) fun ls st h q e => mo_refusesSay_29_ok _ _ e) px_k0))) 55 0 _ _ _ q e)
/-! WordsUnsaidModel.goSay(II)I -/
noncomputable def mo_goSay_58 (x4 : Int32) (h : pH) : pR :=
  some (x4, h)
noncomputable def mo_goSay (x1 : Int32) (x2 : Int32) (h : pH) : pR :=
  px_if (px_ok 0 52 x1) <|
  px_bind (mo_peopleAt (h 52 x1.toNatClampNeg) h) fun z1 h2 =>
  px_if (px_ok 0 52 ((px_c 42) + x2)) <|
  px_bind (jn_bitCount ((z1 &&& ((h2 52 ((px_c 42) + x2).toNatClampNeg) ^^^ (px_c (-1)))) &&& (((px_c 1) <<< (x1 &&& 31)) ^^^ (px_c (-1)))) h2) fun z3 h4 =>
  px_if (px_ok 0 52 ((px_c 22) + x2)) <|
  let h5 := px_w h4 52 ((px_c 22) + x2).toNatClampNeg (px_c 1)
  px_if (px_ok 0 52 ((px_c 42) + x2)) <|
  px_if (px_ok 0 52 ((px_c 42) + x2)) <|
  let h6 := px_w h5 52 ((px_c 42) + x2).toNatClampNeg ((h5 52 ((px_c 42) + x2).toNatClampNeg) ||| z1)
  mo_goSay_58 z3 h6
def mo_goSay_code : pCode := [(0, .aload_n 0, 1), (1, .aload_n 0, 1), (2, .getfield 9, 3), (5, .iload_n 1, 1), (6, .iaload, 1), (7, .invokevirtual 334, 3), (10, .istore_n 3, 1), (11, .iload_n 3, 1), (12, .aload_n 0, 1), (13, .getfield 9, 3), (16, .bipush (42), 2), (18, .iload_n 2, 1), (19, .iadd, 1), (20, .iaload, 1), (21, .iconst (-1), 1), (22, .ixor, 1), (23, .iand, 1), (24, .iconst 1, 1), (25, .iload_n 1, 1), (26, .ishl, 1), (27, .iconst (-1), 1), (28, .ixor, 1), (29, .iand, 1), (30, .invokestatic 222, 3), (33, .istore 4, 2), (35, .aload_n 0, 1), (36, .getfield 9, 3), (39, .bipush (22), 2), (41, .iload_n 2, 1), (42, .iadd, 1), (43, .iconst 1, 1), (44, .iastore, 1), (45, .aload_n 0, 1), (46, .getfield 9, 3), (49, .bipush (42), 2), (51, .iload_n 2, 1), (52, .iadd, 1), (53, .dup2, 1), (54, .iaload, 1), (55, .iload_n 3, 1), (56, .ior, 1), (57, .iastore, 1), (58, .iload 4, 2), (60, .ireturn, 1)]
set_option maxRecDepth 200000 in
theorem mo_goSay_code_ok : px_code prog_13_method_60_code mo_goSay_code = true := by decide +kernel
noncomputable def mo_goSay_orc : pC := px_orc [(207, fun a h => match a with
    | [.inr (.inl 51), .inl v1] => mo_peopleAt v1 h
    | _ => none), (279, fun a h => match a with
    | [.inl v0] => jn_bitCount v0 h
    | _ => none)]
theorem mo_goSay_orc_ok {d : Nat} : px_Or (d + 1) (mo_goSay_orc) := px_orc_ok (by
  refine px_o1 (fun a h q e => by
    dsimp only at e
    split at e
    · exact mo_peopleAt_ok (d := d + 0) e
    · cases e) ?_
  refine px_o1 (fun a h q e => by
    dsimp only at e
    split at e
    · exact jn_bitCount_ok (d := d + 0) e
    · cases e) ?_
  exact px_o0)
set_option maxRecDepth 200000 in
theorem mo_goSay_58_ok {d : Nat} : ∀ (x4 : Int32) (h : pH) (q : Int32 × pH), mo_goSay_58 x4 h = some q → px_G (d + 1 + 1) (pX_RX11, prog_13_method_60_code, 5, (some .int)) 58 [none, none, none, none, some (.inl x4)] [] h q := by
  intro x4 h q e
  exact px_blk_ok (d := d + 1) (M := (pX_RX11, prog_13_method_60_code, 5, (some .int))) (C := mo_goSay_orc) (code := mo_goSay_code) (ld := []) (kl := []) (mo_goSay_orc_ok) pX_ok_RX11 mo_goSay_code_ok (px_k0) 49 58 _ _ h q e
set_option maxRecDepth 200000 in
theorem mo_goSay_ok {d : Nat} {x1 : Int32} {x2 : Int32} {h : pH} {q : Int32 × pH} (e : mo_goSay x1 x2 h = some q) : px_Con (d + 2) 232 [.inr (.inl 51), .inl x1, .inl x2] h q :=
  px_con (X := pX_RX11) (b := prog_13_method_60_code) (nL := 5) (rt := (some .int)) rfl rfl (Nat.le_of_ble_eq_true rfl) rfl (px_blk_ok (d := d + 1) (M := (pX_RX11, prog_13_method_60_code, 5, (some .int))) (C := mo_goSay_orc) (code := mo_goSay_code) (ld := [58]) (kl := [(58, fun ls st h => px_if (px_fit [0, 0, 0, 0, 1] ls && px_fits [] st) (mo_goSay_58 (px_gi ls 4) h))]) (mo_goSay_orc_ok) pX_ok_RX11 mo_goSay_code_ok (px_k1 (px_ko (ts := [0, 0, 0, 0, 1]) (ss := []) fun ls st h q e => mo_goSay_58_ok _ _ _ e) px_k0) 49 0 _ _ _ q e)
/-! WordsUnsaidModel.say(II)I -/
noncomputable def mo_say (x1 : Int32) (x2 : Int32) (h : pH) : pR :=
  let h1 := px_w h 51 14 (px_c 0)
  px_bind (mo_refusesSay x1 x2 h1) fun z2 h3 =>
  if 0 ≤ z2 then
    px_bind (mo_remember 52 h3) fun _ h5 =>
    px_bind (mo_goSay x1 x2 h5) fun z6 h7 =>
    some (z6, h7)
  else
    some (z2, h3)
def mo_say_code : pCode := [(0, .aload_n 0, 1), (1, .iconst 0, 1), (2, .putfield 106, 3), (5, .aload_n 0, 1), (6, .iload_n 1, 1), (7, .iload_n 2, 1), (8, .invokevirtual 337, 3), (11, .istore_n 3, 1), (12, .iload_n 3, 1), (13, .ifCond .ge (5), 3), (16, .iload_n 3, 1), (17, .ireturn, 1), (18, .aload_n 0, 1), (19, .aload_n 0, 1), (20, .getfield 9, 3), (23, .invokevirtual 322, 3), (26, .aload_n 0, 1), (27, .iload_n 1, 1), (28, .iload_n 2, 1), (29, .invokevirtual 340, 3), (32, .ireturn, 1)]
set_option maxRecDepth 200000 in
theorem mo_say_code_ok : px_code prog_13_method_61_code mo_say_code = true := by decide +kernel
noncomputable def mo_say_orc : pC := px_orc [(231, fun a h => match a with
    | [.inr (.inl 51), .inl v1, .inl v2] => mo_refusesSay v1 v2 h
    | _ => none), (224, fun a h => match a with
    | [.inr (.inl 51), .inr (.inl v1)] => mo_remember v1 h
    | _ => none), (232, fun a h => match a with
    | [.inr (.inl 51), .inl v1, .inl v2] => mo_goSay v1 v2 h
    | _ => none)]
theorem mo_say_orc_ok {d : Nat} : px_Or (d + 3) (mo_say_orc) := px_orc_ok (by
  refine px_o1 (fun a h q e => by
    dsimp only at e
    split at e
    · exact mo_refusesSay_ok (d := d + 0) e
    · cases e) ?_
  refine px_o1 (fun a h q e => by
    dsimp only at e
    split at e
    · exact mo_remember_ok (d := d + 1) e
    · cases e) ?_
  refine px_o1 (fun a h q e => by
    dsimp only at e
    split at e
    · exact mo_goSay_ok (d := d + 1) e
    · cases e) ?_
  exact px_o0)
set_option maxRecDepth 200000 in
theorem mo_say_ok {d : Nat} {x1 : Int32} {x2 : Int32} {h : pH} {q : Int32 × pH} (e : mo_say x1 x2 h = some q) : px_Con (d + 4) 233 [.inr (.inl 51), .inl x1, .inl x2] h q :=
  px_con (X := pX_RX11) (b := prog_13_method_61_code) (nL := 4) (rt := (some .int)) rfl rfl (Nat.le_of_ble_eq_true rfl) rfl (px_blk_ok (d := d + 3) (M := (pX_RX11, prog_13_method_61_code, 4, (some .int))) (C := mo_say_orc) (code := mo_say_code) (ld := []) (kl := []) (mo_say_orc_ok) pX_ok_RX11 mo_say_code_ok (px_k0) 26 0 _ _ _ q e)
/-! WordsUnsaidModel.refusesWhisper(III)I -/
noncomputable def mo_refusesWhisper_58 (h : pH) : pR :=
  some (px_c (-1), h)
noncomputable def mo_refusesWhisper_81 (s0 : Int32) (h : pH) : pR :=
  some (s0, h)
noncomputable def mo_refusesWhisper_60 (x1 : Int32) (x2 : Int32) (h : pH) : pR :=
  px_if (px_ok 0 52 x1) <|
  px_if (px_ok 0 52 x2) <|
  if (h 52 x1.toNatClampNeg) = (h 52 x2.toNatClampNeg) then
    mo_refusesWhisper_81 (px_c 0) h
  else
    mo_refusesWhisper_81 (px_c (-2)) h
noncomputable def mo_refusesWhisper (x1 : Int32) (x2 : Int32) (x3 : Int32) (h : pH) : pR :=
  px_bind (mo_areTwo x1 x2 h) fun z1 h2 =>
  if z1 = 0 then
    mo_refusesWhisper_58 h2
  else
    px_bind (mo_isThing x3 h2) fun z3 h4 =>
    if z3 = 0 then
      mo_refusesWhisper_58 h4
    else
      px_if (px_ok 0 52 ((px_c 42) + x3)) <|
      px_bind (mo_has (h4 52 ((px_c 42) + x3).toNatClampNeg) x1 h4) fun z5 h6 =>
      if z5 = 0 then
        mo_refusesWhisper_58 h6
      else
        px_if (px_ok 0 52 ((px_c 22) + x3)) <|
        if (h6 52 ((px_c 22) + x3).toNatClampNeg) = 0 then
          px_if (px_ok 0 52 ((px_c 32) + x3)) <|
          if (h6 52 ((px_c 32) + x3).toNatClampNeg) = x1 then
            mo_refusesWhisper_60 x1 x2 h6
          else
            mo_refusesWhisper_58 h6
        else
          mo_refusesWhisper_60 x1 x2 h6
def mo_refusesWhisper_code : pCode := [(0, .aload_n 0, 1), (1, .iload_n 1, 1), (2, .iload_n 2, 1), (3, .invokevirtual 299, 3), (6, .ifCond .eq (52), 3), (9, .aload_n 0, 1), (10, .iload_n 3, 1), (11, .invokevirtual 251, 3), (14, .ifCond .eq (44), 3), (17, .aload_n 0, 1), (18, .getfield 9, 3), (21, .bipush (42), 2), (23, .iload_n 3, 1), (24, .iadd, 1), (25, .iaload, 1), (26, .iload_n 1, 1), (27, .invokestatic 227, 3), (30, .ifCond .eq (28), 3), (33, .aload_n 0, 1), (34, .getfield 9, 3), (37, .bipush (22), 2), (39, .iload_n 3, 1), (40, .iadd, 1), (41, .iaload, 1), (42, .ifCond .ne (18), 3), (45, .aload_n 0, 1), (46, .getfield 9, 3), (49, .bipush (32), 2), (51, .iload_n 3, 1), (52, .iadd, 1), (53, .iaload, 1), (54, .iload_n 1, 1), (55, .if_icmp .eq (5), 3), (58, .iconst (-1), 1), (59, .ireturn, 1), (60, .aload_n 0, 1), (61, .getfield 9, 3), (64, .iload_n 1, 1), (65, .iaload, 1), (66, .aload_n 0, 1), (67, .getfield 9, 3), (70, .iload_n 2, 1), (71, .iaload, 1), (72, .if_icmp .ne (7), 3), (75, .iconst 0, 1), (76, .goto (5), 3), (79, .bipush (-2), 2), (81, .ireturn, 1)]
set_option maxRecDepth 200000 in
theorem mo_refusesWhisper_code_ok : px_code prog_13_method_62_code mo_refusesWhisper_code = true := by decide +kernel
noncomputable def mo_refusesWhisper_orc : pC := px_orc [(181, fun a h => match a with
    | [.inr (.inl 51), .inl v1, .inl v2] => mo_areTwo v1 v2 h
    | _ => none), (180, fun a h => match a with
    | [.inr (.inl 51), .inl v1] => mo_isThing v1 h
    | _ => none), (176, fun a h => match a with
    | [.inl v0, .inl v1] => mo_has v0 v1 h
    | _ => none)]
theorem mo_refusesWhisper_orc_ok {d : Nat} : px_Or (d + 3) (mo_refusesWhisper_orc) := px_orc_ok (by
  refine px_o1 (fun a h q e => by
    dsimp only at e
    split at e
    · exact mo_areTwo_ok (d := d + 0) e
    · cases e) ?_
  refine px_o1 (fun a h q e => by
    dsimp only at e
    split at e
    · exact mo_isThing_ok (d := d + 1) e
    · cases e) ?_
  refine px_o1 (fun a h q e => by
    dsimp only at e
    split at e
    · exact mo_has_ok (d := d + 2) e
    · cases e) ?_
  exact px_o0)
set_option maxRecDepth 200000 in
theorem mo_refusesWhisper_58_ok {d : Nat} : ∀ (h : pH) (q : Int32 × pH), mo_refusesWhisper_58 h = some q → px_G (d + 3 + 1) (pX_RX11, prog_13_method_62_code, 4, (some .int)) 58 [none, none, none, none] [] h q := by
  intro h q e
  exact px_blk_ok (d := d + 3) (M := (pX_RX11, prog_13_method_62_code, 4, (some .int))) (C := mo_refusesWhisper_orc) (code := mo_refusesWhisper_code) (ld := []) (kl := []) (mo_refusesWhisper_orc_ok) pX_ok_RX11 mo_refusesWhisper_code_ok (px_k0) 53 58 _ _ h q e
set_option maxRecDepth 200000 in
theorem mo_refusesWhisper_81_ok {d : Nat} : ∀ (s0 : Int32) (h : pH) (q : Int32 × pH), mo_refusesWhisper_81 s0 h = some q → px_G (d + 3 + 1) (pX_RX11, prog_13_method_62_code, 4, (some .int)) 81 [none, none, none, none] [.inl s0] h q := by
  intro s0 h q e
  exact px_blk_ok (d := d + 3) (M := (pX_RX11, prog_13_method_62_code, 4, (some .int))) (C := mo_refusesWhisper_orc) (code := mo_refusesWhisper_code) (ld := []) (kl := []) (mo_refusesWhisper_orc_ok) pX_ok_RX11 mo_refusesWhisper_code_ok (px_k0) 53 81 _ _ h q e
set_option maxRecDepth 200000 in
theorem mo_refusesWhisper_60_ok {d : Nat} : ∀ (x1 : Int32) (x2 : Int32) (h : pH) (q : Int32 × pH), mo_refusesWhisper_60 x1 x2 h = some q → px_G (d + 3 + 1) (pX_RX11, prog_13_method_62_code, 4, (some .int)) 60 [some (.inr (.inl 51)), some (.inl x1), some (.inl x2), none] [] h q := by
  intro x1 x2 h q e
  exact px_blk_ok (d := d + 3) (M := (pX_RX11, prog_13_method_62_code, 4, (some .int))) (C := mo_refusesWhisper_orc) (code := mo_refusesWhisper_code) (ld := [81]) (kl := [(81, fun ls st h => px_if (px_fit [0, 0, 0, 0] ls && px_fits [1] st) (mo_refusesWhisper_81 (px_si st 0) h))]) (mo_refusesWhisper_orc_ok) pX_ok_RX11 mo_refusesWhisper_code_ok (px_k1 (px_ko (ts := [0, 0, 0, 0]) (ss := [1]) fun ls st h q e => mo_refusesWhisper_81_ok _ _ _ e) px_k0) 53 60 _ _ h q e
set_option maxRecDepth 200000 in
theorem mo_refusesWhisper_ok {d : Nat} {x1 : Int32} {x2 : Int32} {x3 : Int32} {h : pH} {q : Int32 × pH} (e : mo_refusesWhisper x1 x2 x3 h = some q) : px_Con (d + 4) 234 [.inr (.inl 51), .inl x1, .inl x2, .inl x3] h q :=
  px_con (X := pX_RX11) (b := prog_13_method_62_code) (nL := 4) (rt := (some .int)) rfl rfl (Nat.le_of_ble_eq_true rfl) rfl (px_blk_ok (d := d + 3) (M := (pX_RX11, prog_13_method_62_code, 4, (some .int))) (C := mo_refusesWhisper_orc) (code := mo_refusesWhisper_code) (ld := [60, 58]) (kl := [(60, fun ls st h => px_if (px_fit [61, 1, 1, 0] ls && px_fits [] st) (mo_refusesWhisper_60 (px_gi ls 1) (px_gi ls 2) h)), (58, fun ls st h => px_if (px_fit [0, 0, 0, 0] ls && px_fits [] st) (mo_refusesWhisper_58 h))]) (mo_refusesWhisper_orc_ok) pX_ok_RX11 mo_refusesWhisper_code_ok (px_k1 (px_ko (ts := [61, 1, 1, 0]) (ss := []) fun ls st h q e => mo_refusesWhisper_60_ok _ _ _ _ e) (px_k1 (px_ko (ts := [0, 0, 0, 0]) (ss := []) fun ls st h q e => mo_refusesWhisper_58_ok _ _ e) px_k0)) 53 0 _ _ _ q e)
/-! WordsUnsaidModel.goWhisper(II)I -/
noncomputable def mo_goWhisper_21 (x1 : Int32) (x2 : Int32) (s0 : Int32) (h : pH) : pR :=
  px_if (px_ok 0 52 ((px_c 42) + x2)) <|
  px_if (px_ok 0 52 ((px_c 42) + x2)) <|
  let h1 := px_w h 52 ((px_c 42) + x2).toNatClampNeg ((h 52 ((px_c 42) + x2).toNatClampNeg) ||| ((px_c 1) <<< (x1 &&& 31)))
  some (s0, h1)
noncomputable def mo_goWhisper (x1 : Int32) (x2 : Int32) (h : pH) : pR :=
  px_if (px_ok 0 52 ((px_c 42) + x2)) <|
  px_bind (mo_has (h 52 ((px_c 42) + x2).toNatClampNeg) x1 h) fun z1 h2 =>
  if z1 = 0 then
    mo_goWhisper_21 x1 x2 (px_c 1) h2
  else
    mo_goWhisper_21 x1 x2 (px_c 0) h2
def mo_goWhisper_code : pCode := [(0, .aload_n 0, 1), (1, .getfield 9, 3), (4, .bipush (42), 2), (6, .iload_n 2, 1), (7, .iadd, 1), (8, .iaload, 1), (9, .iload_n 1, 1), (10, .invokestatic 227, 3), (13, .ifCond .eq (7), 3), (16, .iconst 0, 1), (17, .goto (4), 3), (20, .iconst 1, 1), (21, .istore_n 3, 1), (22, .aload_n 0, 1), (23, .getfield 9, 3), (26, .bipush (42), 2), (28, .iload_n 2, 1), (29, .iadd, 1), (30, .dup2, 1), (31, .iaload, 1), (32, .iconst 1, 1), (33, .iload_n 1, 1), (34, .ishl, 1), (35, .ior, 1), (36, .iastore, 1), (37, .iload_n 3, 1), (38, .ireturn, 1)]
set_option maxRecDepth 200000 in
theorem mo_goWhisper_code_ok : px_code prog_13_method_63_code mo_goWhisper_code = true := by decide +kernel
noncomputable def mo_goWhisper_orc : pC := px_orc [(176, fun a h => match a with
    | [.inl v0, .inl v1] => mo_has v0 v1 h
    | _ => none)]
theorem mo_goWhisper_orc_ok {d : Nat} : px_Or (d + 1) (mo_goWhisper_orc) := px_orc_ok (by
  refine px_o1 (fun a h q e => by
    dsimp only at e
    split at e
    · exact mo_has_ok (d := d + 0) e
    · cases e) ?_
  exact px_o0)
set_option maxRecDepth 200000 in
theorem mo_goWhisper_21_ok {d : Nat} : ∀ (x1 : Int32) (x2 : Int32) (s0 : Int32) (h : pH) (q : Int32 × pH), mo_goWhisper_21 x1 x2 s0 h = some q → px_G (d + 1 + 1) (pX_RX11, prog_13_method_63_code, 4, (some .int)) 21 [some (.inr (.inl 51)), some (.inl x1), some (.inl x2), none] [.inl s0] h q := by
  intro x1 x2 s0 h q e
  exact px_blk_ok (d := d + 1) (M := (pX_RX11, prog_13_method_63_code, 4, (some .int))) (C := mo_goWhisper_orc) (code := mo_goWhisper_code) (ld := []) (kl := []) (mo_goWhisper_orc_ok) pX_ok_RX11 mo_goWhisper_code_ok (px_k0) 32 21 _ _ h q e
set_option maxRecDepth 200000 in
theorem mo_goWhisper_ok {d : Nat} {x1 : Int32} {x2 : Int32} {h : pH} {q : Int32 × pH} (e : mo_goWhisper x1 x2 h = some q) : px_Con (d + 2) 235 [.inr (.inl 51), .inl x1, .inl x2] h q :=
  px_con (X := pX_RX11) (b := prog_13_method_63_code) (nL := 4) (rt := (some .int)) rfl rfl (Nat.le_of_ble_eq_true rfl) rfl (px_blk_ok (d := d + 1) (M := (pX_RX11, prog_13_method_63_code, 4, (some .int))) (C := mo_goWhisper_orc) (code := mo_goWhisper_code) (ld := [21]) (kl := [(21, fun ls st h => px_if (px_fit [61, 1, 1, 0] ls && px_fits [1] st) (mo_goWhisper_21 (px_gi ls 1) (px_gi ls 2) (px_si st 0) h))]) (mo_goWhisper_orc_ok) pX_ok_RX11 mo_goWhisper_code_ok (px_k1 (px_ko (ts := [61, 1, 1, 0]) (ss := [1]) fun ls st h q e => mo_goWhisper_21_ok _ _ _ _ _ e) px_k0) 32 0 _ _ _ q e)
/-! WordsUnsaidModel.whisper(III)I -/
noncomputable def mo_whisper (x1 : Int32) (x2 : Int32) (x3 : Int32) (h : pH) : pR :=
  let h1 := px_w h 51 14 (px_c 0)
  px_bind (mo_refusesWhisper x1 x2 x3 h1) fun z2 h3 =>
  if 0 ≤ z2 then
    px_bind (mo_remember 52 h3) fun _ h5 =>
    px_bind (mo_goWhisper x2 x3 h5) fun z6 h7 =>
    some (z6, h7)
  else
    some (z2, h3)
def mo_whisper_code : pCode := [(0, .aload_n 0, 1), (1, .iconst 0, 1), (2, .putfield 106, 3), (5, .aload_n 0, 1), (6, .iload_n 1, 1), (7, .iload_n 2, 1), (8, .iload_n 3, 1), (9, .invokevirtual 343, 3), (12, .istore 4, 2), (14, .iload 4, 2), (16, .ifCond .ge (6), 3), (19, .iload 4, 2), (21, .ireturn, 1), (22, .aload_n 0, 1), (23, .aload_n 0, 1), (24, .getfield 9, 3), (27, .invokevirtual 322, 3), (30, .aload_n 0, 1), (31, .iload_n 2, 1), (32, .iload_n 3, 1), (33, .invokevirtual 346, 3), (36, .ireturn, 1)]
set_option maxRecDepth 200000 in
theorem mo_whisper_code_ok : px_code prog_13_method_64_code mo_whisper_code = true := by decide +kernel
noncomputable def mo_whisper_orc : pC := px_orc [(234, fun a h => match a with
    | [.inr (.inl 51), .inl v1, .inl v2, .inl v3] => mo_refusesWhisper v1 v2 v3 h
    | _ => none), (224, fun a h => match a with
    | [.inr (.inl 51), .inr (.inl v1)] => mo_remember v1 h
    | _ => none), (235, fun a h => match a with
    | [.inr (.inl 51), .inl v1, .inl v2] => mo_goWhisper v1 v2 h
    | _ => none)]
theorem mo_whisper_orc_ok {d : Nat} : px_Or (d + 4) (mo_whisper_orc) := px_orc_ok (by
  refine px_o1 (fun a h q e => by
    dsimp only at e
    split at e
    · exact mo_refusesWhisper_ok (d := d + 0) e
    · cases e) ?_
  refine px_o1 (fun a h q e => by
    dsimp only at e
    split at e
    · exact mo_remember_ok (d := d + 2) e
    · cases e) ?_
  refine px_o1 (fun a h q e => by
    dsimp only at e
    split at e
    · exact mo_goWhisper_ok (d := d + 2) e
    · cases e) ?_
  exact px_o0)
set_option maxRecDepth 200000 in
theorem mo_whisper_ok {d : Nat} {x1 : Int32} {x2 : Int32} {x3 : Int32} {h : pH} {q : Int32 × pH} (e : mo_whisper x1 x2 x3 h = some q) : px_Con (d + 5) 236 [.inr (.inl 51), .inl x1, .inl x2, .inl x3] h q :=
  px_con (X := pX_RX11) (b := prog_13_method_64_code) (nL := 5) (rt := (some .int)) rfl rfl (Nat.le_of_ble_eq_true rfl) rfl (px_blk_ok (d := d + 4) (M := (pX_RX11, prog_13_method_64_code, 5, (some .int))) (C := mo_whisper_orc) (code := mo_whisper_code) (ld := []) (kl := []) (mo_whisper_orc_ok) pX_ok_RX11 mo_whisper_code_ok (px_k0) 27 0 _ _ _ q e)
/-! WordsUnsaidModel.priceOf(I)I -/
noncomputable def mo_priceOf (x1 : Int32) (h : pH) : pR :=
  px_if (px_ok 0 52 ((px_c 12) + x1)) <|
  if (px_c 5) = 0 then none else
  some (((h 52 ((px_c 12) + x1).toNatClampNeg) + (px_c 4)) / (px_c 5), h)
def mo_priceOf_code : pCode := [(0, .aload_n 0, 1), (1, .getfield 9, 3), (4, .bipush (12), 2), (6, .iload_n 1, 1), (7, .iadd, 1), (8, .iaload, 1), (9, .iconst 4, 1), (10, .iadd, 1), (11, .iconst 5, 1), (12, .idiv, 1), (13, .ireturn, 1)]
set_option maxRecDepth 200000 in
theorem mo_priceOf_code_ok : px_code prog_13_method_65_code mo_priceOf_code = true := by decide +kernel
noncomputable def mo_priceOf_orc : pC := px_orc []
theorem mo_priceOf_orc_ok {d : Nat} : px_Or (d + 0) (mo_priceOf_orc) := px_orc_ok (by
  exact px_o0)
set_option maxRecDepth 200000 in
theorem mo_priceOf_ok {d : Nat} {x1 : Int32} {h : pH} {q : Int32 × pH} (e : mo_priceOf x1 h = some q) : px_Con (d + 1) 237 [.inr (.inl 51), .inl x1] h q :=
  px_con (X := pX_RX11) (b := prog_13_method_65_code) (nL := 2) (rt := (some .int)) rfl rfl (Nat.le_of_ble_eq_true rfl) rfl (px_blk_ok (d := d + 0) (M := (pX_RX11, prog_13_method_65_code, 2, (some .int))) (C := mo_priceOf_orc) (code := mo_priceOf_code) (ld := []) (kl := []) (mo_priceOf_orc_ok) pX_ok_RX11 mo_priceOf_code_ok (px_k0) 16 0 _ _ _ q e)
/-! WordsUnsaidModel.refusesSell(III)I -/
noncomputable def mo_refusesSell_55 (h : pH) : pR :=
  some (px_c (-1), h)
noncomputable def mo_refusesSell_128 (s0 : Int32) (h : pH) : pR :=
  some (s0, h)
noncomputable def mo_refusesSell_122 (h : pH) : pR :=
  mo_refusesSell_128 (px_c (-3)) h
noncomputable def mo_refusesSell (x1 : Int32) (x2 : Int32) (x3 : Int32) (h : pH) : pR :=
  px_bind (mo_areTwo x1 x2 h) fun z1 h2 =>
  if z1 = 0 then
    mo_refusesSell_55 h2
  else
    px_bind (mo_isThing x3 h2) fun z3 h4 =>
    if z3 = 0 then
      mo_refusesSell_55 h4
    else
      px_if (px_ok 0 52 ((px_c 32) + x3)) <|
      if (h4 52 ((px_c 32) + x3).toNatClampNeg) = x1 then
        px_if (px_ok 0 52 ((px_c 22) + x3)) <|
        if (h4 52 ((px_c 22) + x3).toNatClampNeg) = (px_c 1) then
          mo_refusesSell_55 h4
        else
          px_if (px_ok 0 52 ((px_c 12) + x3)) <|
          if (h4 52 ((px_c 12) + x3).toNatClampNeg) = 0 then
            mo_refusesSell_55 h4
          else
            px_if (px_ok 0 52 x1) <|
            px_if (px_ok 0 52 x2) <|
            if (h4 52 x1.toNatClampNeg) = (h4 52 x2.toNatClampNeg) then
              px_if (px_ok 0 52 ((px_c 6) + x2)) <|
              px_bind (mo_priceOf x3 h4) fun z5 h6 =>
              if (h4 52 ((px_c 6) + x2).toNatClampNeg) < z5 then
                mo_refusesSell_122 h6
              else
                px_if (px_ok 0 57 x3) <|
                if (h6 57 x3.toNatClampNeg) = x2 then
                  mo_refusesSell_122 h6
                else
                  px_if (px_ok 0 52 ((px_c 6) + x1)) <|
                  px_bind (mo_priceOf x3 h6) fun z7 h8 =>
                  if ((h6 52 ((px_c 6) + x1).toNatClampNeg) + z7) ≤ (px_c 99) then
                    mo_refusesSell_128 (px_c 0) h8
                  else
                    mo_refusesSell_122 h8
            else
              some (px_c (-2), h4)
      else
        mo_refusesSell_55 h4
def mo_refusesSell_code : pCode := [(0, .aload_n 0, 1), (1, .iload_n 1, 1), (2, .iload_n 2, 1), (3, .invokevirtual 299, 3), (6, .ifCond .eq (49), 3), (9, .aload_n 0, 1), (10, .iload_n 3, 1), (11, .invokevirtual 251, 3), (14, .ifCond .eq (41), 3), (17, .aload_n 0, 1), (18, .getfield 9, 3), (21, .bipush (32), 2), (23, .iload_n 3, 1), (24, .iadd, 1), (25, .iaload, 1), (26, .iload_n 1, 1), (27, .if_icmp .ne (28), 3), (30, .aload_n 0, 1), (31, .getfield 9, 3), (34, .bipush (22), 2), (36, .iload_n 3, 1), (37, .iadd, 1), (38, .iaload, 1), (39, .iconst 1, 1), (40, .if_icmp .eq (15), 3), (43, .aload_n 0, 1), (44, .getfield 9, 3), (47, .bipush (12), 2), (49, .iload_n 3, 1), (50, .iadd, 1), (51, .iaload, 1), (52, .ifCond .ne (5), 3), (55, .iconst (-1), 1), (56, .ireturn, 1), (57, .aload_n 0, 1), (58, .getfield 9, 3), (61, .iload_n 1, 1), (62, .iaload, 1), (63, .aload_n 0, 1), (64, .getfield 9, 3), (67, .iload_n 2, 1), (68, .iaload, 1), (69, .if_icmp .eq (6), 3), (72, .bipush (-2), 2), (74, .ireturn, 1), (75, .aload_n 0, 1), (76, .getfield 9, 3), (79, .bipush (6), 2), (81, .iload_n 2, 1), (82, .iadd, 1), (83, .iaload, 1), (84, .aload_n 0, 1), (85, .iload_n 3, 1), (86, .invokevirtual 349, 3), (89, .if_icmp .lt (33), 3), (92, .aload_n 0, 1), (93, .getfield 29, 3), (96, .iload_n 3, 1), (97, .iaload, 1), (98, .iload_n 2, 1), (99, .if_icmp .eq (23), 3), (102, .aload_n 0, 1), (103, .getfield 9, 3), (106, .bipush (6), 2), (108, .iload_n 1, 1), (109, .iadd, 1), (110, .iaload, 1), (111, .aload_n 0, 1), (112, .iload_n 3, 1), (113, .invokevirtual 349, 3), (116, .iadd, 1), (117, .bipush (99), 2), (119, .if_icmp .le (8), 3), (122, .bipush (-3), 2), (124, .goto (4), 3), (127, .iconst 0, 1), (128, .ireturn, 1)]
set_option maxRecDepth 200000 in
theorem mo_refusesSell_code_ok : px_code prog_13_method_66_code mo_refusesSell_code = true := by decide +kernel
noncomputable def mo_refusesSell_orc : pC := px_orc [(181, fun a h => match a with
    | [.inr (.inl 51), .inl v1, .inl v2] => mo_areTwo v1 v2 h
    | _ => none), (180, fun a h => match a with
    | [.inr (.inl 51), .inl v1] => mo_isThing v1 h
    | _ => none), (237, fun a h => match a with
    | [.inr (.inl 51), .inl v1] => mo_priceOf v1 h
    | _ => none)]
theorem mo_refusesSell_orc_ok {d : Nat} : px_Or (d + 3) (mo_refusesSell_orc) := px_orc_ok (by
  refine px_o1 (fun a h q e => by
    dsimp only at e
    split at e
    · exact mo_areTwo_ok (d := d + 0) e
    · cases e) ?_
  refine px_o1 (fun a h q e => by
    dsimp only at e
    split at e
    · exact mo_isThing_ok (d := d + 1) e
    · cases e) ?_
  refine px_o1 (fun a h q e => by
    dsimp only at e
    split at e
    · exact mo_priceOf_ok (d := d + 2) e
    · cases e) ?_
  exact px_o0)
set_option maxRecDepth 200000 in
theorem mo_refusesSell_55_ok {d : Nat} : ∀ (h : pH) (q : Int32 × pH), mo_refusesSell_55 h = some q → px_G (d + 3 + 1) (pX_RX11, prog_13_method_66_code, 4, (some .int)) 55 [none, none, none, none] [] h q := by
  intro h q e
  exact px_blk_ok (d := d + 3) (M := (pX_RX11, prog_13_method_66_code, 4, (some .int))) (C := mo_refusesSell_orc) (code := mo_refusesSell_code) (ld := []) (kl := []) (mo_refusesSell_orc_ok) pX_ok_RX11 mo_refusesSell_code_ok (px_k0) 82 55 _ _ h q e
set_option maxRecDepth 200000 in
theorem mo_refusesSell_128_ok {d : Nat} : ∀ (s0 : Int32) (h : pH) (q : Int32 × pH), mo_refusesSell_128 s0 h = some q → px_G (d + 3 + 1) (pX_RX11, prog_13_method_66_code, 4, (some .int)) 128 [none, none, none, none] [.inl s0] h q := by
  intro s0 h q e
  exact px_blk_ok (d := d + 3) (M := (pX_RX11, prog_13_method_66_code, 4, (some .int))) (C := mo_refusesSell_orc) (code := mo_refusesSell_code) (ld := []) (kl := []) (mo_refusesSell_orc_ok) pX_ok_RX11 mo_refusesSell_code_ok (px_k0) 82 128 _ _ h q e
set_option maxRecDepth 200000 in
theorem mo_refusesSell_122_ok {d : Nat} : ∀ (h : pH) (q : Int32 × pH), mo_refusesSell_122 h = some q → px_G (d + 3 + 1) (pX_RX11, prog_13_method_66_code, 4, (some .int)) 122 [none, none, none, none] [] h q := by
  intro h q e
  exact px_blk_ok (d := d + 3) (M := (pX_RX11, prog_13_method_66_code, 4, (some .int))) (C := mo_refusesSell_orc) (code := mo_refusesSell_code) (ld := [128]) (kl := [(128, fun ls st h => px_if (px_fit [0, 0, 0, 0] ls && px_fits [1] st) (mo_refusesSell_128 (px_si st 0) h))]) (mo_refusesSell_orc_ok) pX_ok_RX11 mo_refusesSell_code_ok (px_k1 (px_ko (ts := [0, 0, 0, 0]) (ss := [1]) fun ls st h q e => mo_refusesSell_128_ok _ _ _ e) px_k0) 82 122 _ _ h q e
set_option maxRecDepth 200000 in
theorem mo_refusesSell_ok {d : Nat} {x1 : Int32} {x2 : Int32} {x3 : Int32} {h : pH} {q : Int32 × pH} (e : mo_refusesSell x1 x2 x3 h = some q) : px_Con (d + 4) 238 [.inr (.inl 51), .inl x1, .inl x2, .inl x3] h q :=
  px_con (X := pX_RX11) (b := prog_13_method_66_code) (nL := 4) (rt := (some .int)) rfl rfl (Nat.le_of_ble_eq_true rfl) rfl (px_blk_ok (d := d + 3) (M := (pX_RX11, prog_13_method_66_code, 4, (some .int))) (C := mo_refusesSell_orc) (code := mo_refusesSell_code) (ld := [122, 128, 55]) (kl := [(122, fun ls st h => px_if (px_fit [0, 0, 0, 0] ls && px_fits [] st) (mo_refusesSell_122 h)), (128, fun ls st h => px_if (px_fit [0, 0, 0, 0] ls && px_fits [1] st) (mo_refusesSell_128 (px_si st 0) h)), (55, fun ls st h => px_if (px_fit [0, 0, 0, 0] ls && px_fits [] st) (mo_refusesSell_55 h))]) (mo_refusesSell_orc_ok) pX_ok_RX11 mo_refusesSell_code_ok (px_k1 (px_ko (ts := [0, 0, 0, 0]) (ss := []) fun ls st h q e => mo_refusesSell_122_ok _ _ e) (px_k1 (px_ko (ts := [0, 0, 0, 0]) (ss := [1]) fun ls st h q e => mo_refusesSell_128_ok _ _ _ e) (px_k1 (px_ko (ts := [0, 0, 0, 0]) (ss := []) fun ls st h q e => mo_refusesSell_55_ok _ _ e) px_k0))) 82 0 _ _ _ q e)
/-! WordsUnsaidModel.goSell(III)I -/
noncomputable def mo_goSell_60 (x4 : Int32) (h : pH) : pR :=
  some (x4, h)
noncomputable def mo_goSell_35 (x2 : Int32) (x3 : Int32) (x4 : Int32) (h : pH) : pR :=
  px_if (px_ok 0 52 ((px_c 32) + x3)) <|
  let h1 := px_w h 52 ((px_c 32) + x3).toNatClampNeg x2
  px_if (px_ok 0 52 ((px_c 42) + x3)) <|
  px_if (px_ok 0 52 ((px_c 42) + x3)) <|
  let h2 := px_w h1 52 ((px_c 42) + x3).toNatClampNeg ((h1 52 ((px_c 42) + x3).toNatClampNeg) ||| ((px_c 1) <<< (x2 &&& 31)))
  mo_goSell_60 x4 h2
noncomputable def mo_goSell (x1 : Int32) (x2 : Int32) (x3 : Int32) (h : pH) : pR :=
  px_bind (mo_priceOf x3 h) fun z1 h2 =>
  px_if (px_ok 0 52 ((px_c 6) + x2)) <|
  px_if (px_ok 0 52 ((px_c 6) + x2)) <|
  let h3 := px_w h2 52 ((px_c 6) + x2).toNatClampNeg ((h2 52 ((px_c 6) + x2).toNatClampNeg) - z1)
  px_if (px_ok 0 52 ((px_c 6) + x1)) <|
  px_if (px_ok 0 52 ((px_c 6) + x1)) <|
  let h4 := px_w h3 52 ((px_c 6) + x1).toNatClampNeg ((h3 52 ((px_c 6) + x1).toNatClampNeg) + z1)
  mo_goSell_35 x2 x3 z1 h4
def mo_goSell_code : pCode := [(0, .aload_n 0, 1), (1, .iload_n 3, 1), (2, .invokevirtual 349, 3), (5, .istore 4, 2), (7, .aload_n 0, 1), (8, .getfield 9, 3), (11, .bipush (6), 2), (13, .iload_n 2, 1), (14, .iadd, 1), (15, .dup2, 1), (16, .iaload, 1), (17, .iload 4, 2), (19, .isub, 1), (20, .iastore, 1), (21, .aload_n 0, 1), (22, .getfield 9, 3), (25, .bipush (6), 2), (27, .iload_n 1, 1), (28, .iadd, 1), (29, .dup2, 1), (30, .iaload, 1), (31, .iload 4, 2), (33, .iadd, 1), (34, .iastore, 1), (35, .aload_n 0, 1), (36, .getfield 9, 3), (39, .bipush (32), 2), (41, .iload_n 3, 1), (42, .iadd, 1), (43, .iload_n 2, 1), (44, .iastore, 1), (45, .aload_n 0, 1), (46, .getfield 9, 3), (49, .bipush (42), 2), (51, .iload_n 3, 1), (52, .iadd, 1), (53, .dup2, 1), (54, .iaload, 1), (55, .iconst 1, 1), (56, .iload_n 2, 1), (57, .ishl, 1), (58, .ior, 1), (59, .iastore, 1), (60, .iload 4, 2), (62, .ireturn, 1)]
set_option maxRecDepth 200000 in
theorem mo_goSell_code_ok : px_code prog_13_method_67_code mo_goSell_code = true := by decide +kernel
noncomputable def mo_goSell_orc : pC := px_orc [(237, fun a h => match a with
    | [.inr (.inl 51), .inl v1] => mo_priceOf v1 h
    | _ => none)]
theorem mo_goSell_orc_ok {d : Nat} : px_Or (d + 1) (mo_goSell_orc) := px_orc_ok (by
  refine px_o1 (fun a h q e => by
    dsimp only at e
    split at e
    · exact mo_priceOf_ok (d := d + 0) e
    · cases e) ?_
  exact px_o0)
set_option maxRecDepth 200000 in
theorem mo_goSell_60_ok {d : Nat} : ∀ (x4 : Int32) (h : pH) (q : Int32 × pH), mo_goSell_60 x4 h = some q → px_G (d + 1 + 1) (pX_RX11, prog_13_method_67_code, 5, (some .int)) 60 [none, none, none, none, some (.inl x4)] [] h q := by
  intro x4 h q e
  exact px_blk_ok (d := d + 1) (M := (pX_RX11, prog_13_method_67_code, 5, (some .int))) (C := mo_goSell_orc) (code := mo_goSell_code) (ld := []) (kl := []) (mo_goSell_orc_ok) pX_ok_RX11 mo_goSell_code_ok (px_k0) 50 60 _ _ h q e
set_option maxRecDepth 200000 in
theorem mo_goSell_35_ok {d : Nat} : ∀ (x2 : Int32) (x3 : Int32) (x4 : Int32) (h : pH) (q : Int32 × pH), mo_goSell_35 x2 x3 x4 h = some q → px_G (d + 1 + 1) (pX_RX11, prog_13_method_67_code, 5, (some .int)) 35 [some (.inr (.inl 51)), none, some (.inl x2), some (.inl x3), some (.inl x4)] [] h q := by
  intro x2 x3 x4 h q e
  exact px_blk_ok (d := d + 1) (M := (pX_RX11, prog_13_method_67_code, 5, (some .int))) (C := mo_goSell_orc) (code := mo_goSell_code) (ld := [60]) (kl := [(60, fun ls st h => px_if (px_fit [0, 0, 0, 0, 1] ls && px_fits [] st) (mo_goSell_60 (px_gi ls 4) h))]) (mo_goSell_orc_ok) pX_ok_RX11 mo_goSell_code_ok (px_k1 (px_ko (ts := [0, 0, 0, 0, 1]) (ss := []) fun ls st h q e => mo_goSell_60_ok _ _ _ e) px_k0) 50 35 _ _ h q e
set_option maxRecDepth 200000 in
theorem mo_goSell_ok {d : Nat} {x1 : Int32} {x2 : Int32} {x3 : Int32} {h : pH} {q : Int32 × pH} (e : mo_goSell x1 x2 x3 h = some q) : px_Con (d + 2) 239 [.inr (.inl 51), .inl x1, .inl x2, .inl x3] h q :=
  px_con (X := pX_RX11) (b := prog_13_method_67_code) (nL := 5) (rt := (some .int)) rfl rfl (Nat.le_of_ble_eq_true rfl) rfl (px_blk_ok (d := d + 1) (M := (pX_RX11, prog_13_method_67_code, 5, (some .int))) (C := mo_goSell_orc) (code := mo_goSell_code) (ld := [35]) (kl := [(35, fun ls st h => px_if (px_fit [61, 0, 1, 1, 1] ls && px_fits [] st) (mo_goSell_35 (px_gi ls 2) (px_gi ls 3) (px_gi ls 4) h))]) (mo_goSell_orc_ok) pX_ok_RX11 mo_goSell_code_ok (px_k1 (px_ko (ts := [61, 0, 1, 1, 1]) (ss := []) fun ls st h q e => mo_goSell_35_ok _ _ _ _ _ e) px_k0) 50 0 _ _ _ q e)
/-! WordsUnsaidModel.sell(III)I -/
noncomputable def mo_sell (x1 : Int32) (x2 : Int32) (x3 : Int32) (h : pH) : pR :=
  let h1 := px_w h 51 14 (px_c 0)
  px_bind (mo_refusesSell x1 x2 x3 h1) fun z2 h3 =>
  if 0 ≤ z2 then
    px_bind (mo_remember 52 h3) fun _ h5 =>
    px_bind (mo_goSell x1 x2 x3 h5) fun z6 h7 =>
    some (z6, h7)
  else
    some (z2, h3)
def mo_sell_code : pCode := [(0, .aload_n 0, 1), (1, .iconst 0, 1), (2, .putfield 106, 3), (5, .aload_n 0, 1), (6, .iload_n 1, 1), (7, .iload_n 2, 1), (8, .iload_n 3, 1), (9, .invokevirtual 352, 3), (12, .istore 4, 2), (14, .iload 4, 2), (16, .ifCond .ge (6), 3), (19, .iload 4, 2), (21, .ireturn, 1), (22, .aload_n 0, 1), (23, .aload_n 0, 1), (24, .getfield 9, 3), (27, .invokevirtual 322, 3), (30, .aload_n 0, 1), (31, .iload_n 1, 1), (32, .iload_n 2, 1), (33, .iload_n 3, 1), (34, .invokevirtual 355, 3), (37, .ireturn, 1)]
set_option maxRecDepth 200000 in
theorem mo_sell_code_ok : px_code prog_13_method_68_code mo_sell_code = true := by decide +kernel
noncomputable def mo_sell_orc : pC := px_orc [(238, fun a h => match a with
    | [.inr (.inl 51), .inl v1, .inl v2, .inl v3] => mo_refusesSell v1 v2 v3 h
    | _ => none), (224, fun a h => match a with
    | [.inr (.inl 51), .inr (.inl v1)] => mo_remember v1 h
    | _ => none), (239, fun a h => match a with
    | [.inr (.inl 51), .inl v1, .inl v2, .inl v3] => mo_goSell v1 v2 v3 h
    | _ => none)]
theorem mo_sell_orc_ok {d : Nat} : px_Or (d + 4) (mo_sell_orc) := px_orc_ok (by
  refine px_o1 (fun a h q e => by
    dsimp only at e
    split at e
    · exact mo_refusesSell_ok (d := d + 0) e
    · cases e) ?_
  refine px_o1 (fun a h q e => by
    dsimp only at e
    split at e
    · exact mo_remember_ok (d := d + 2) e
    · cases e) ?_
  refine px_o1 (fun a h q e => by
    dsimp only at e
    split at e
    · exact mo_goSell_ok (d := d + 2) e
    · cases e) ?_
  exact px_o0)
set_option maxRecDepth 200000 in
theorem mo_sell_ok {d : Nat} {x1 : Int32} {x2 : Int32} {x3 : Int32} {h : pH} {q : Int32 × pH} (e : mo_sell x1 x2 x3 h = some q) : px_Con (d + 5) 240 [.inr (.inl 51), .inl x1, .inl x2, .inl x3] h q :=
  px_con (X := pX_RX11) (b := prog_13_method_68_code) (nL := 5) (rt := (some .int)) rfl rfl (Nat.le_of_ble_eq_true rfl) rfl (px_blk_ok (d := d + 4) (M := (pX_RX11, prog_13_method_68_code, 5, (some .int))) (C := mo_sell_orc) (code := mo_sell_code) (ld := []) (kl := []) (mo_sell_orc_ok) pX_ok_RX11 mo_sell_code_ok (px_k0) 28 0 _ _ _ q e)
