/-! the reference: rows -/
/-! WordsUnsaidModel.beginRows([IIII)V -/
noncomputable def mo_beginRows_43 : Nat → Int32 → pH → pR
  | 0, _, _ => none
  | n + 1, x5, h =>
    if (px_c 10) ≤ x5 then
      some (0, h)
    else
      px_if (px_ok 0 71 x5) <|
      let h1 := px_w h 71 x5.toNatClampNeg (px_c 0)
      mo_beginRows_43 n (x5 + px_c 1) h1
noncomputable def mo_beginRows_40 (h : pH) : pR :=
  mo_beginRows_43 px_F (px_c 0) h
noncomputable def mo_beginRows_30 (h : pH) : pR :=
  let h1 := px_w h 51 46 (px_c 0)
  let h2 := px_w h1 51 47 (px_c 0)
  mo_beginRows_40 h2
noncomputable def mo_beginRows_19 (x4 : Int32) (h : pH) : pR :=
  let h1 := px_w h 51 43 x4
  let h2 := px_w h1 51 45 (px_c 0)
  mo_beginRows_30 h2
noncomputable def mo_beginRows (a1 : Nat) (x2 : Int32) (x3 : Int32) (x4 : Int32) (h : pH) : pR :=
  px_bind (mo_lay a1 70 (px_c 0) h) fun _ h2 =>
  let h3 := px_w h2 51 41 x2
  let h4 := px_w h3 51 42 x3
  mo_beginRows_19 x4 h4
def mo_beginRows_code : pCode := [(0, .aload_n 1, 1), (1, .aload_n 0, 1), (2, .getfield 69, 3), (5, .iconst 0, 1), (6, .invokestatic 295, 3), (9, .aload_n 0, 1), (10, .iload_n 2, 1), (11, .putfield 371, 3), (14, .aload_n 0, 1), (15, .iload_n 3, 1), (16, .putfield 374, 3), (19, .aload_n 0, 1), (20, .iload 4, 2), (22, .putfield 377, 3), (25, .aload_n 0, 1), (26, .iconst 0, 1), (27, .putfield 380, 3), (30, .aload_n 0, 1), (31, .iconst 0, 1), (32, .putfield 383, 3), (35, .aload_n 0, 1), (36, .iconst 0, 1), (37, .putfield 386, 3), (40, .iconst 0, 1), (41, .istore 5, 2), (43, .iload 5, 2), (45, .bipush (10), 2), (47, .if_icmp .ge (17), 3), (50, .aload_n 0, 1), (51, .getfield 72, 3), (54, .iload 5, 2), (56, .iconst 0, 1), (57, .iastore, 1), (58, .iinc 5 (1), 3), (61, .goto (-18), 3), (64, .return_, 1)]
set_option maxRecDepth 200000 in
theorem mo_beginRows_code_ok : px_code prog_13_method_76_code mo_beginRows_code = true := by decide +kernel
noncomputable def mo_beginRows_orc : pC := px_orc [(223, fun a h => match a with
    | [.inr (.inl v0), .inr (.inl v1), .inl v2] => mo_lay v0 v1 v2 h
    | _ => none)]
theorem mo_beginRows_orc_ok {d : Nat} : px_Or (d + 1) (mo_beginRows_orc) := px_orc_ok (by
  refine px_o1 (fun a h q e => by
    dsimp only at e
    split at e
    · exact mo_lay_ok (d := d + 0) e
    · cases e) ?_
  exact px_o0)
set_option maxRecDepth 200000 in
theorem mo_beginRows_43_ok {d : Nat} : ∀ (n : Nat) (x5 : Int32) (h : pH) (q : Int32 × pH), mo_beginRows_43 n x5 h = some q → px_G (d + 1 + 1) (pX_RX11, prog_13_method_76_code, 6, none) 43 [some (.inr (.inl 51)), none, none, none, none, some (.inl x5)] [] h q := by
  intro n
  induction n with
  | zero =>
    intro x5 h q e
    cases e
  | succ n ih =>
    intro x5 h q e
    exact px_blk_ok (d := d + 1) (M := (pX_RX11, prog_13_method_76_code, 6, none)) (C := mo_beginRows_orc) (code := mo_beginRows_code) (ld := [43]) (kl := [(43, fun ls st h => px_if (px_fit [61, 0, 0, 0, 0, 1] ls && px_fits [] st) (mo_beginRows_43 n (px_gi ls 5) h))]) (mo_beginRows_orc_ok) pX_ok_RX11 mo_beginRows_code_ok (px_k1 (px_ko (ts := [61, 0, 0, 0, 0, 1]) (ss := []) fun ls st h q e => ih _ _ _ e) px_k0) 41 43 _ _ h q e
set_option maxRecDepth 200000 in
theorem mo_beginRows_40_ok {d : Nat} : ∀ (h : pH) (q : Int32 × pH), mo_beginRows_40 h = some q → px_G (d + 1 + 1) (pX_RX11, prog_13_method_76_code, 6, none) 40 [some (.inr (.inl 51)), none, none, none, none, none] [] h q := by
  intro h q e
  exact px_blk_ok (d := d + 1) (M := (pX_RX11, prog_13_method_76_code, 6, none)) (C := mo_beginRows_orc) (code := mo_beginRows_code) (ld := [43]) (kl := [(43, fun ls st h => px_if (px_fit [61, 0, 0, 0, 0, 1] ls && px_fits [] st) (mo_beginRows_43 px_F (px_gi ls 5) h))]) (mo_beginRows_orc_ok) pX_ok_RX11 mo_beginRows_code_ok (px_k1 (px_ko (ts := [61, 0, 0, 0, 0, 1]) (ss := []) fun ls st h q e => mo_beginRows_43_ok _ _ _ _ e) px_k0) 41 40 _ _ h q e
set_option maxRecDepth 200000 in
theorem mo_beginRows_30_ok {d : Nat} : ∀ (h : pH) (q : Int32 × pH), mo_beginRows_30 h = some q → px_G (d + 1 + 1) (pX_RX11, prog_13_method_76_code, 6, none) 30 [some (.inr (.inl 51)), none, none, none, none, none] [] h q := by
  intro h q e
  exact px_blk_ok (d := d + 1) (M := (pX_RX11, prog_13_method_76_code, 6, none)) (C := mo_beginRows_orc) (code := mo_beginRows_code) (ld := [40]) (kl := [(40, fun ls st h => px_if (px_fit [61, 0, 0, 0, 0, 0] ls && px_fits [] st) (mo_beginRows_40 h))]) (mo_beginRows_orc_ok) pX_ok_RX11 mo_beginRows_code_ok (px_k1 (px_ko (ts := [61, 0, 0, 0, 0, 0]) (ss := []) fun ls st h q e => mo_beginRows_40_ok _ _ e) px_k0) 41 30 _ _ h q e
set_option maxRecDepth 200000 in
theorem mo_beginRows_19_ok {d : Nat} : ∀ (x4 : Int32) (h : pH) (q : Int32 × pH), mo_beginRows_19 x4 h = some q → px_G (d + 1 + 1) (pX_RX11, prog_13_method_76_code, 6, none) 19 [some (.inr (.inl 51)), none, none, none, some (.inl x4), none] [] h q := by
  intro x4 h q e
  exact px_blk_ok (d := d + 1) (M := (pX_RX11, prog_13_method_76_code, 6, none)) (C := mo_beginRows_orc) (code := mo_beginRows_code) (ld := [30]) (kl := [(30, fun ls st h => px_if (px_fit [61, 0, 0, 0, 0, 0] ls && px_fits [] st) (mo_beginRows_30 h))]) (mo_beginRows_orc_ok) pX_ok_RX11 mo_beginRows_code_ok (px_k1 (px_ko (ts := [61, 0, 0, 0, 0, 0]) (ss := []) fun ls st h q e => mo_beginRows_30_ok _ _ e) px_k0) 41 19 _ _ h q e
set_option maxRecDepth 200000 in
theorem mo_beginRows_ok {d : Nat} {a1 : Nat} {x2 : Int32} {x3 : Int32} {x4 : Int32} {h : pH} {q : Int32 × pH} (e : mo_beginRows a1 x2 x3 x4 h = some q) : px_Con (d + 2) 248 [.inr (.inl 51), .inr (.inl a1), .inl x2, .inl x3, .inl x4] h q :=
  px_con (X := pX_RX11) (b := prog_13_method_76_code) (nL := 6) (rt := none) rfl rfl (Nat.le_of_ble_eq_true rfl) rfl (px_blk_ok (d := d + 1) (M := (pX_RX11, prog_13_method_76_code, 6, none)) (C := mo_beginRows_orc) (code := mo_beginRows_code) (ld := [19]) (kl := [(19, fun ls st h => px_if (px_fit [61, 0, 0, 0, 1, 0] ls && px_fits [] st) (mo_beginRows_19 (px_gi ls 4) h))]) (mo_beginRows_orc_ok) pX_ok_RX11 mo_beginRows_code_ok (px_k1 (px_ko (ts := [61, 0, 0, 0, 1, 0]) (ss := []) fun ls st h q e => mo_beginRows_19_ok _ _ _ e) px_k0) 41 0 _ _ _ q e)
/-! WordsUnsaidModel.isLineLess()Z -/
noncomputable def mo_isLineLess_76 (s0 : Int32) (h : pH) : pR :=
  px_bz s0 h
noncomputable def mo_isLineLess_60 (h : pH) : pR :=
  if (h 51 50) ≤ (h 51 30) then
    mo_isLineLess_76 (px_c 0) h
  else
    mo_isLineLess_76 (px_c 1) h
noncomputable def mo_isLineLess_53 (s0 : Int32) (h : pH) : pR :=
  px_bz s0 h
noncomputable def mo_isLineLess_2 : Nat → Int32 → pH → pR
  | 0, _, _ => none
  | n + 1, x1, h =>
    if (h 51 30) ≤ x1 then
      mo_isLineLess_60 h
    else
      if (h 51 50) ≤ x1 then
        mo_isLineLess_60 h
      else
        px_if (px_ok 0 65 x1) <|
        px_if (px_ok 0 72 x1) <|
        if (h 65 x1.toNatClampNeg) = (h 72 x1.toNatClampNeg) then
          mo_isLineLess_2 n (x1 + px_c 1) h
        else
          px_if (px_ok 0 65 x1) <|
          px_if (px_ok 0 72 x1) <|
          if (h 72 x1.toNatClampNeg) ≤ (h 65 x1.toNatClampNeg) then
            mo_isLineLess_53 (px_c 0) h
          else
            mo_isLineLess_53 (px_c 1) h
noncomputable def mo_isLineLess (h : pH) : pR :=
  mo_isLineLess_2 px_F (px_c 0) h
def mo_isLineLess_code : pCode := [(0, .iconst 0, 1), (1, .istore_n 1, 1), (2, .iload_n 1, 1), (3, .aload_n 0, 1), (4, .getfield 292, 3), (7, .if_icmp .ge (53), 3), (10, .iload_n 1, 1), (11, .aload_n 0, 1), (12, .getfield 404, 3), (15, .if_icmp .ge (45), 3), (18, .aload_n 0, 1), (19, .getfield 54, 3), (22, .iload_n 1, 1), (23, .iaload, 1), (24, .aload_n 0, 1), (25, .getfield 75, 3), (28, .iload_n 1, 1), (29, .iaload, 1), (30, .if_icmp .eq (24), 3), (33, .aload_n 0, 1), (34, .getfield 54, 3), (37, .iload_n 1, 1), (38, .iaload, 1), (39, .aload_n 0, 1), (40, .getfield 75, 3), (43, .iload_n 1, 1), (44, .iaload, 1), (45, .if_icmp .ge (7), 3), (48, .iconst 1, 1), (49, .goto (4), 3), (52, .iconst 0, 1), (53, .ireturn, 1), (54, .iinc 1 (1), 3), (57, .goto (-55), 3), (60, .aload_n 0, 1), (61, .getfield 292, 3), (64, .aload_n 0, 1), (65, .getfield 404, 3), (68, .if_icmp .ge (7), 3), (71, .iconst 1, 1), (72, .goto (4), 3), (75, .iconst 0, 1), (76, .ireturn, 1)]
set_option maxRecDepth 200000 in
theorem mo_isLineLess_code_ok : px_code prog_13_method_80_code mo_isLineLess_code = true := by decide +kernel
noncomputable def mo_isLineLess_orc : pC := px_orc []
theorem mo_isLineLess_orc_ok {d : Nat} : px_Or (d + 0) (mo_isLineLess_orc) := px_orc_ok (by
  exact px_o0)
set_option maxRecDepth 200000 in
theorem mo_isLineLess_76_ok {d : Nat} : ∀ (s0 : Int32) (h : pH) (q : Int32 × pH), mo_isLineLess_76 s0 h = some q → px_G (d + 0 + 1) (pX_RX11, prog_13_method_80_code, 2, (some .boolean)) 76 [none, none] [.inl s0] h q := by
  intro s0 h q e
  exact px_blk_ok (d := d + 0) (M := (pX_RX11, prog_13_method_80_code, 2, (some .boolean))) (C := mo_isLineLess_orc) (code := mo_isLineLess_code) (ld := []) (kl := []) (mo_isLineLess_orc_ok) pX_ok_RX11 mo_isLineLess_code_ok (px_k0) 48 76 _ _ h q e
set_option maxRecDepth 200000 in
theorem mo_isLineLess_60_ok {d : Nat} : ∀ (h : pH) (q : Int32 × pH), mo_isLineLess_60 h = some q → px_G (d + 0 + 1) (pX_RX11, prog_13_method_80_code, 2, (some .boolean)) 60 [some (.inr (.inl 51)), none] [] h q := by
  intro h q e
  exact px_blk_ok (d := d + 0) (M := (pX_RX11, prog_13_method_80_code, 2, (some .boolean))) (C := mo_isLineLess_orc) (code := mo_isLineLess_code) (ld := [76]) (kl := [(76, fun ls st h => px_if (px_fit [0, 0] ls && px_fits [1] st) (mo_isLineLess_76 (px_si st 0) h))]) (mo_isLineLess_orc_ok) pX_ok_RX11 mo_isLineLess_code_ok (px_k1 (px_ko (ts := [0, 0]) (ss := [1]) fun ls st h q e => mo_isLineLess_76_ok _ _ _ e) px_k0) 48 60 _ _ h q e
set_option maxRecDepth 200000 in
theorem mo_isLineLess_53_ok {d : Nat} : ∀ (s0 : Int32) (h : pH) (q : Int32 × pH), mo_isLineLess_53 s0 h = some q → px_G (d + 0 + 1) (pX_RX11, prog_13_method_80_code, 2, (some .boolean)) 53 [none, none] [.inl s0] h q := by
  intro s0 h q e
  exact px_blk_ok (d := d + 0) (M := (pX_RX11, prog_13_method_80_code, 2, (some .boolean))) (C := mo_isLineLess_orc) (code := mo_isLineLess_code) (ld := []) (kl := []) (mo_isLineLess_orc_ok) pX_ok_RX11 mo_isLineLess_code_ok (px_k0) 48 53 _ _ h q e
set_option maxRecDepth 200000 in
theorem mo_isLineLess_2_ok {d : Nat} : ∀ (n : Nat) (x1 : Int32) (h : pH) (q : Int32 × pH), mo_isLineLess_2 n x1 h = some q → px_G (d + 0 + 1) (pX_RX11, prog_13_method_80_code, 2, (some .boolean)) 2 [some (.inr (.inl 51)), some (.inl x1)] [] h q := by
  intro n
  induction n with
  | zero =>
    intro x1 h q e
    cases e
  | succ n ih =>
    intro x1 h q e
    exact px_blk_ok (d := d + 0) (M := (pX_RX11, prog_13_method_80_code, 2, (some .boolean))) (C := mo_isLineLess_orc) (code := mo_isLineLess_code) (ld := [2, 53, 60]) (kl := [(2, fun ls st h => px_if (px_fit [61, 1] ls && px_fits [] st) (mo_isLineLess_2 n (px_gi ls 1) h)), (53, fun ls st h => px_if (px_fit [0, 0] ls && px_fits [1] st) (mo_isLineLess_53 (px_si st 0) h)), (60, fun ls st h => px_if (px_fit [61, 0] ls && px_fits [] st) (mo_isLineLess_60 h))]) (mo_isLineLess_orc_ok) pX_ok_RX11 mo_isLineLess_code_ok (px_k1 (px_ko (ts := [61, 1]) (ss := []) fun ls st h q e => ih _ _ _ e) (px_k1 (px_ko (ts := [0, 0]) (ss := [1]) fun ls st h q e => mo_isLineLess_53_ok _ _ _ e) (px_k1 (px_ko (ts := [61, 0]) (ss := []) fun ls st h q e => mo_isLineLess_60_ok _ _ e) px_k0))) 48 2 _ _ h q e
set_option maxRecDepth 200000 in
theorem mo_isLineLess_ok {d : Nat} {h : pH} {q : Int32 × pH} (e : mo_isLineLess h = some q) : px_Con (d + 1) 252 [.inr (.inl 51)] h q :=
  px_con (X := pX_RX11) (b := prog_13_method_80_code) (nL := 2) (rt := (some .boolean)) rfl rfl (Nat.le_of_ble_eq_true rfl) rfl (px_blk_ok (d := d + 0) (M := (pX_RX11, prog_13_method_80_code, 2, (some .boolean))) (C := mo_isLineLess_orc) (code := mo_isLineLess_code) (ld := [2]) (kl := [(2, fun ls st h => px_if (px_fit [61, 1] ls && px_fits [] st) (mo_isLineLess_2 px_F (px_gi ls 1) h))]) (mo_isLineLess_orc_ok) pX_ok_RX11 mo_isLineLess_code_ok (px_k1 (px_ko (ts := [61, 1]) (ss := []) fun ls st h q e => mo_isLineLess_2_ok _ _ _ _ e) px_k0) 48 0 _ _ _ q e)
/-! WordsUnsaidModel.endRow(I)Z -/
noncomputable def mo_endRow_194 (h : pH) : pR :=
  px_bz (px_c 0) h
noncomputable def mo_endRow_171 (h : pH) : pR :=
  let h1 := px_w h 51 47 ((h 51 47) + (px_c 1))
  px_if (px_ok 0 71 (h1 51 32)) <|
  px_if (px_ok 0 71 (h1 51 32)) <|
  let h2 := px_w h1 71 (h1 51 32).toNatClampNeg ((h1 71 (h1 51 32).toNatClampNeg) + (px_c 1))
  mo_endRow_194 h2
noncomputable def mo_endRow_145 : Nat → Int32 → pH → pR
  | 0, _, _ => none
  | n + 1, x3, h =>
    if (h 51 30) ≤ x3 then
      mo_endRow_171 h
    else
      px_if (px_ok 0 65 x3) <|
      px_if (px_ok 0 72 x3) <|
      let h1 := px_w h 72 x3.toNatClampNeg (h 65 x3.toNatClampNeg)
      mo_endRow_145 n (x3 + px_c 1) h1
noncomputable def mo_endRow_135 (h : pH) : pR :=
  let h1 := px_w h 51 50 (h 51 30)
  mo_endRow_145 px_F (px_c 0) h1
noncomputable def mo_endRow_91 (x1 : Int32) (x2 : Int32) (h : pH) : pR :=
  if x1 = (px_c 2) then
    if x2 = 0 then
      px_bind (jn_numberOfTrailingZeros (h 51 41) h) fun z1 h2 =>
      px_if (px_ok 0 68 z1) <|
      if (h2 68 z1.toNatClampNeg) = ((px_c 2) + (h2 51 44)) then
        if (h2 51 47) = 0 then
          mo_endRow_135 h2
        else
          px_bind (mo_isLineLess h2) fun z3 h4 =>
          if z3 = 0 then
            mo_endRow_171 h4
          else
            mo_endRow_135 h4
      else
        mo_endRow_194 h2
    else
      mo_endRow_194 h
  else
    mo_endRow_194 h
noncomputable def mo_endRow (x1 : Int32) (h : pH) : pR :=
  px_bind (mo_wordsIn 70 h) fun z1 h2 =>
  px_bind (mo_distance (h2 51 42) (h2 51 43) h2) fun z3 h4 =>
  if z3 ≤ z1 then
    px_bind (mo_lay 70 68 (px_c 0) h4) fun _ h6 =>
    px_bind (mo_goes 68 (h6 51 41) (h6 51 42) (h6 51 43) h6) fun z7 h8 =>
    if x1 = 0 then
      px_bz z7 h8
    else
      if z7 = 0 then
        let h9 := px_w h8 51 46 ((h8 51 46) + (px_c 1))
        mo_endRow_91 x1 z7 h9
      else
        let h10 := px_w h8 51 45 ((h8 51 45) + (px_c 1))
        mo_endRow_91 x1 z7 h10
  else
    px_bz (px_c 0) h4
def mo_endRow_code : pCode := [(0, .aload_n 0, 1), (1, .aload_n 0, 1), (2, .getfield 69, 3), (5, .invokevirtual 309, 3), (8, .aload_n 0, 1), (9, .aload_n 0, 1), (10, .getfield 374, 3), (13, .aload_n 0, 1), (14, .getfield 377, 3), (17, .invokevirtual 268, 3), (20, .if_icmp .ge (5), 3), (23, .iconst 0, 1), (24, .ireturn, 1), (25, .aload_n 0, 1), (26, .getfield 69, 3), (29, .aload_n 0, 1), (30, .getfield 63, 3), (33, .iconst 0, 1), (34, .invokestatic 295, 3), (37, .aload_n 0, 1), (38, .aload_n 0, 1), (39, .getfield 63, 3), (42, .aload_n 0, 1), (43, .getfield 371, 3), (46, .aload_n 0, 1), (47, .getfield 374, 3), (50, .aload_n 0, 1), (51, .getfield 377, 3), (54, .invokevirtual 326, 3), (57, .istore_n 2, 1), (58, .iload_n 1, 1), (59, .ifCond .ne (5), 3), (62, .iload_n 2, 1), (63, .ireturn, 1), (64, .iload_n 2, 1), (65, .ifCond .eq (16), 3), (68, .aload_n 0, 1), (69, .dup, 1), (70, .getfield 380, 3), (73, .iconst 1, 1), (74, .iadd, 1), (75, .putfield 380, 3), (78, .goto (13), 3), (81, .aload_n 0, 1), (82, .dup, 1), (83, .getfield 383, 3), (86, .iconst 1, 1), (87, .iadd, 1), (88, .putfield 383, 3), (91, .iload_n 1, 1), (92, .iconst 2, 1), (93, .if_icmp .ne (101), 3), (96, .iload_n 2, 1), (97, .ifCond .ne (97), 3), (100, .aload_n 0, 1), (101, .getfield 63, 3), (104, .aload_n 0, 1), (105, .getfield 371, 3), (108, .invokestatic 395, 3), (111, .iaload, 1), (112, .iconst 2, 1), (113, .aload_n 0, 1), (114, .getfield 398, 3), (117, .iadd, 1), (118, .if_icmp .ne (76), 3), (121, .aload_n 0, 1), (122, .getfield 386, 3), (125, .ifCond .eq (10), 3), (128, .aload_n 0, 1), (129, .invokevirtual 401, 3), (132, .ifCond .eq (39), 3), (135, .aload_n 0, 1), (136, .aload_n 0, 1), (137, .getfield 292, 3), (140, .putfield 404, 3), (143, .iconst 0, 1), (144, .istore_n 3, 1), (145, .iload_n 3, 1), (146, .aload_n 0, 1), (147, .getfield 292, 3), (150, .if_icmp .ge (21), 3), (153, .aload_n 0, 1), (154, .getfield 75, 3), (157, .iload_n 3, 1), (158, .aload_n 0, 1), (159, .getfield 54, 3), (162, .iload_n 3, 1), (163, .iaload, 1), (164, .iastore, 1), (165, .iinc 3 (1), 3), (168, .goto (-23), 3), (171, .aload_n 0, 1), (172, .dup, 1), (173, .getfield 386, 3), (176, .iconst 1, 1), (177, .iadd, 1), (178, .putfield 386, 3), (181, .aload_n 0, 1), (182, .getfield 72, 3), (185, .aload_n 0, 1), (186, .getfield 274, 3), (189, .dup2, 1), (190, .iaload, 1), (191, .iconst 1, 1), (192, .iadd, 1), (193, .iastore, 1), (194, .iconst 0, 1), (195, .ireturn, 1)]
set_option maxRecDepth 200000 in
theorem mo_endRow_code_ok : px_code prog_13_method_79_code mo_endRow_code = true := by decide +kernel
noncomputable def mo_endRow_orc : pC := px_orc [(280, fun a h => match a with
    | [.inl v0] => jn_numberOfTrailingZeros v0 h
    | _ => none), (252, fun a h => match a with
    | [.inr (.inl 51)] => mo_isLineLess h
    | _ => none), (222, fun a h => match a with
    | [.inr (.inl 51), .inr (.inl v1)] => mo_wordsIn v1 h
    | _ => none), (218, fun a h => match a with
    | [.inr (.inl 51), .inl v1, .inl v2] => mo_distance v1 v2 h
    | _ => none), (223, fun a h => match a with
    | [.inr (.inl v0), .inr (.inl v1), .inl v2] => mo_lay v0 v1 v2 h
    | _ => none), (219, fun a h => match a with
    | [.inr (.inl 51), .inr (.inl v1), .inl v2, .inl v3, .inl v4] => mo_goes v1 v2 v3 v4 h
    | _ => none)]
theorem mo_endRow_orc_ok {d : Nat} : px_Or (d + 106) (mo_endRow_orc) := px_orc_ok (by
  refine px_o1 (fun a h q e => by
    dsimp only at e
    split at e
    · exact jn_numberOfTrailingZeros_ok (d := d + 105) e
    · cases e) ?_
  refine px_o1 (fun a h q e => by
    dsimp only at e
    split at e
    · exact mo_isLineLess_ok (d := d + 105) e
    · cases e) ?_
  refine px_o1 (fun a h q e => by
    dsimp only at e
    split at e
    · exact mo_wordsIn_ok (d := d + 105) e
    · cases e) ?_
  refine px_o1 (fun a h q e => by
    dsimp only at e
    split at e
    · exact mo_distance_ok (d := d + 104) e
    · cases e) ?_
  refine px_o1 (fun a h q e => by
    dsimp only at e
    split at e
    · exact mo_lay_ok (d := d + 105) e
    · cases e) ?_
  refine px_o1 (fun a h q e => by
    dsimp only at e
    split at e
    · exact mo_goes_ok (d := d + 0) e
    · cases e) ?_
  exact px_o0)
set_option maxRecDepth 200000 in
theorem mo_endRow_194_ok {d : Nat} : ∀ (h : pH) (q : Int32 × pH), mo_endRow_194 h = some q → px_G (d + 106 + 1) (pX_RX11, prog_13_method_79_code, 4, (some .boolean)) 194 [none, none, none, none] [] h q := by
  intro h q e
  exact px_blk_ok (d := d + 106) (M := (pX_RX11, prog_13_method_79_code, 4, (some .boolean))) (C := mo_endRow_orc) (code := mo_endRow_code) (ld := []) (kl := []) (mo_endRow_orc_ok) pX_ok_RX11 mo_endRow_code_ok (px_k0) 113 194 _ _ h q e
set_option maxRecDepth 200000 in
theorem mo_endRow_171_ok {d : Nat} : ∀ (h : pH) (q : Int32 × pH), mo_endRow_171 h = some q → px_G (d + 106 + 1) (pX_RX11, prog_13_method_79_code, 4, (some .boolean)) 171 [some (.inr (.inl 51)), none, none, none] [] h q := by
  intro h q e
  exact px_blk_ok (d := d + 106) (M := (pX_RX11, prog_13_method_79_code, 4, (some .boolean))) (C := mo_endRow_orc) (code := mo_endRow_code) (ld := [194]) (kl := [(194, fun ls st h => px_if (px_fit [0, 0, 0, 0] ls && px_fits [] st) (mo_endRow_194 h))]) (mo_endRow_orc_ok) pX_ok_RX11 mo_endRow_code_ok (px_k1 (px_ko (ts := [0, 0, 0, 0]) (ss := []) fun ls st h q e => mo_endRow_194_ok _ _ e) px_k0) 113 171 _ _ h q e
set_option maxRecDepth 200000 in
theorem mo_endRow_145_ok {d : Nat} : ∀ (n : Nat) (x3 : Int32) (h : pH) (q : Int32 × pH), mo_endRow_145 n x3 h = some q → px_G (d + 106 + 1) (pX_RX11, prog_13_method_79_code, 4, (some .boolean)) 145 [some (.inr (.inl 51)), none, none, some (.inl x3)] [] h q := by
  intro n
  induction n with
  | zero =>
    intro x3 h q e
    cases e
  | succ n ih =>
    intro x3 h q e
    exact px_blk_ok (d := d + 106) (M := (pX_RX11, prog_13_method_79_code, 4, (some .boolean))) (C := mo_endRow_orc) (code := mo_endRow_code) (ld := [145, 171]) (kl := [(145, fun ls st h => px_if (px_fit [61, 0, 0, 1] ls && px_fits [] st) (mo_endRow_145 n (px_gi ls 3) h)), (171, fun ls st h => px_if (px_fit [61, 0, 0, 0] ls && px_fits [] st) (mo_endRow_171 h))]) (mo_endRow_orc_ok) pX_ok_RX11 mo_endRow_code_ok (px_k1 (px_ko (ts := [61, 0, 0, 1]) (ss := []) fun ls st h q e => ih _ _ _ e) (px_k1 (px_ko (ts := [61, 0, 0, 0]) (ss := []) fun ls st h q e => mo_endRow_171_ok _ _ e) px_k0)) 113 145 _ _ h q e
set_option maxRecDepth 200000 in
theorem mo_endRow_135_ok {d : Nat} : ∀ (h : pH) (q : Int32 × pH), mo_endRow_135 h = some q → px_G (d + 106 + 1) (pX_RX11, prog_13_method_79_code, 4, (some .boolean)) 135 [some (.inr (.inl 51)), none, none, none] [] h q := by
  intro h q e
  exact px_blk_ok (d := d + 106) (M := (pX_RX11, prog_13_method_79_code, 4, (some .boolean))) (C := mo_endRow_orc) (code := mo_endRow_code) (ld := [145]) (kl := [(145, fun ls st h => px_if (px_fit [61, 0, 0, 1] ls && px_fits [] st) (mo_endRow_145 px_F (px_gi ls 3) h))]) (mo_endRow_orc_ok) pX_ok_RX11 mo_endRow_code_ok (px_k1 (px_ko (ts := [61, 0, 0, 1]) (ss := []) fun ls st h q e => mo_endRow_145_ok _ _ _ _ e) px_k0) 113 135 _ _ h q e
set_option maxRecDepth 200000 in
theorem mo_endRow_91_ok {d : Nat} : ∀ (x1 : Int32) (x2 : Int32) (h : pH) (q : Int32 × pH), mo_endRow_91 x1 x2 h = some q → px_G (d + 106 + 1) (pX_RX11, prog_13_method_79_code, 4, (some .boolean)) 91 [some (.inr (.inl 51)), some (.inl x1), some (.inl x2), none] [] h q := by
  intro x1 x2 h q e
  exact px_blk_ok (d := d + 106) (M := (pX_RX11, prog_13_method_79_code, 4, (some .boolean))) (C := mo_endRow_orc) (code := mo_endRow_code) (ld := [135, 171, 194]) (kl := [(135, fun ls st h => px_if (px_fit [61, 0, 0, 0] ls && px_fits [] st) (mo_endRow_135 h)), (171, fun ls st h => px_if (px_fit [61, 0, 0, 0] ls && px_fits [] st) (mo_endRow_171 h)), (194, fun ls st h => px_if (px_fit [0, 0, 0, 0] ls && px_fits [] st) (mo_endRow_194 h))]) (mo_endRow_orc_ok) pX_ok_RX11 mo_endRow_code_ok (px_k1 (px_ko (ts := [61, 0, 0, 0]) (ss := []) fun ls st h q e => mo_endRow_135_ok _ _ e) (px_k1 (px_ko (ts := [61, 0, 0, 0]) (ss := []) fun ls st h q e => mo_endRow_171_ok _ _ e) (px_k1 (px_ko (ts := [0, 0, 0, 0]) (ss := []) fun ls st h q e => mo_endRow_194_ok _ _ e) px_k0))) 113 91 _ _ h q e
set_option maxRecDepth 200000 in
theorem mo_endRow_ok {d : Nat} {x1 : Int32} {h : pH} {q : Int32 × pH} (e : mo_endRow x1 h = some q) : px_Con (d + 107) 251 [.inr (.inl 51), .inl x1] h q :=
  px_con (X := pX_RX11) (b := prog_13_method_79_code) (nL := 4) (rt := (some .boolean)) rfl rfl (Nat.le_of_ble_eq_true rfl) rfl (px_blk_ok (d := d + 106) (M := (pX_RX11, prog_13_method_79_code, 4, (some .boolean))) (C := mo_endRow_orc) (code := mo_endRow_code) (ld := [91]) (kl := [(91, fun ls st h => px_if (px_fit [61, 1, 1, 0] ls && px_fits [] st) (mo_endRow_91 (px_gi ls 1) (px_gi ls 2) h))]) (mo_endRow_orc_ok) pX_ok_RX11 mo_endRow_code_ok (px_k1 (px_ko (ts := [61, 1, 1, 0]) (ss := []) fun ls st h q e => mo_endRow_91_ok _ _ _ _ e) px_k0) 113 0 _ _ _ q e)
noncomputable def mo_goRow_88 (rc : pC) (r16 : Int32 → Int32 → Int32 → pH → pR) (x1 : Int32) (x2 : Int32) (x3 : Int32) (h : pH) : pR :=
  r16 x1 x2 (x3 + px_c 1) h
noncomputable def mo_goRow_63 (rc : pC) (r16 : Int32 → Int32 → Int32 → pH → pR) (x1 : Int32) (x2 : Int32) (x3 : Int32) (h : pH) : pR :=
  px_bind (rc 250 [.inr (.inl 51), .inl x1, .inl x2] h) fun z1 h2 =>
  if z1 = 0 then
    let h3 := px_w h2 51 30 ((h2 51 30) - (px_c 1))
    mo_goRow_88 rc r16 x1 x2 x3 h3
  else
    px_bz (px_c 1) h2
noncomputable def mo_goRow_16 (rc : pC) : Nat → Int32 → Int32 → Int32 → pH → pR
  | 0, _, _, _, _ => none
  | n + 1, x1, x2, x3, h =>
    if (h 51 6) ≤ x3 then
      px_bz (px_c 0) h
    else
      px_bind (mo_canLine 70 x3 (h 51 41) h) fun z1 h2 =>
      if z1 = 0 then
        mo_goRow_88 rc (mo_goRow_16 rc n) x1 x2 x3 h2
      else
        px_if (px_ok 0 65 (h2 51 30)) <|
        let h3 := px_w h2 65 (h2 51 30).toNatClampNeg x3
        let h4 := px_w h3 51 30 ((h3 51 30) + (px_c 1))
        mo_goRow_63 rc (mo_goRow_16 rc n) x1 x2 x3 h4
noncomputable def mo_goRow (rc : pC) (x1 : Int32) (x2 : Int32) (h : pH) : pR :=
  if (h 51 30) = x1 then
    px_bind (mo_endRow x2 h) fun z1 h2 =>
    px_bz z1 h2
  else
    mo_goRow_16 rc px_F x1 x2 (px_c 0) h
def mo_goRow_code : pCode := [(0, .aload_n 0, 1), (1, .getfield 292, 3), (4, .iload_n 1, 1), (5, .if_icmp .ne (9), 3), (8, .aload_n 0, 1), (9, .iload_n 2, 1), (10, .invokevirtual 392, 3), (13, .ireturn, 1), (14, .iconst 0, 1), (15, .istore_n 3, 1), (16, .iload_n 3, 1), (17, .aload_n 0, 1), (18, .getfield 119, 3), (21, .if_icmp .ge (73), 3), (24, .aload_n 0, 1), (25, .aload_n 0, 1), (26, .getfield 69, 3), (29, .iload_n 3, 1), (30, .aload_n 0, 1), (31, .getfield 371, 3), (34, .invokevirtual 305, 3), (37, .ifCond .ne (6), 3), (40, .goto (48), 3), (43, .aload_n 0, 1), (44, .getfield 54, 3), (47, .aload_n 0, 1), (48, .getfield 292, 3), (51, .iload_n 3, 1), (52, .iastore, 1), (53, .aload_n 0, 1), (54, .dup, 1), (55, .getfield 292, 3), (58, .iconst 1, 1), (59, .iadd, 1), (60, .putfield 292, 3), (63, .aload_n 0, 1), (64, .iload_n 1, 1), (65, .iload_n 2, 1), (66, .invokevirtual 389, 3), (69, .istore 4, 2), (71, .iload 4, 2), (73, .ifCond .eq (5), 3), (76, .iconst 1, 1), (77, .ireturn, 1), (78, .aload_n 0, 1), (79, .dup, 1), (80, .getfield 292, 3), (83, .iconst 1, 1), (84, .isub, 1), (85, .putfield 292, 3), (88, .iinc 3 (1), 3), (91, .goto (-75), 3), (94, .iconst 0, 1), (95, .ireturn, 1)]
set_option maxRecDepth 200000 in
theorem mo_goRow_code_ok : px_code prog_13_method_78_code mo_goRow_code = true := by decide +kernel
noncomputable def mo_goRow_orc (rc : pC) : pC := fun id a h => match px_mem [250] id with
  | true => rc id a h
  | false => px_orc [(226, fun a h => match a with
    | [.inr (.inl 51), .inr (.inl v1), .inl v2, .inl v3] => mo_canLine v1 v2 v3 h
    | _ => none), (251, fun a h => match a with
    | [.inr (.inl 51), .inl v1] => mo_endRow v1 h
    | _ => none)] id a h
theorem mo_goRow_orc_ok {d : Nat} {rc : pC} (hrc : px_Or (d + 107) rc) : px_Or (d + 107) (mo_goRow_orc rc) := by
  intro id a h q e
  unfold mo_goRow_orc at e
  split at e
  · exact hrc id a h q e
  · exact (px_orc_ok (by
      refine px_o1 (fun a h q e => by
        dsimp only at e
        split at e
        · exact mo_canLine_ok (d := d + 104) e
        · cases e) ?_
      refine px_o1 (fun a h q e => by
        dsimp only at e
        split at e
        · exact mo_endRow_ok (d := d + 0) e
        · cases e) ?_
      exact px_o0) : px_Or _ (px_orc [(226, fun a h => match a with
    | [.inr (.inl 51), .inr (.inl v1), .inl v2, .inl v3] => mo_canLine v1 v2 v3 h
    | _ => none), (251, fun a h => match a with
    | [.inr (.inl 51), .inl v1] => mo_endRow v1 h
    | _ => none)])) id a h q e
set_option maxRecDepth 200000 in
theorem mo_goRow_88_ok {d : Nat} {rc : pC} (hrc : px_Or (d + 107) rc) {r16 : Int32 → Int32 → Int32 → pH → pR} (hr16 : ∀ (x1 : Int32) (x2 : Int32) (x3 : Int32) (h : pH) (q : Int32 × pH), r16 x1 x2 x3 h = some q → px_G (d + 107 + 1) (pX_RX11, prog_13_method_78_code, 5, (some .boolean)) 16 [some (.inr (.inl 51)), some (.inl x1), some (.inl x2), some (.inl x3), none] [] h q) : ∀ (x1 : Int32) (x2 : Int32) (x3 : Int32) (h : pH) (q : Int32 × pH), mo_goRow_88 rc r16 x1 x2 x3 h = some q → px_G (d + 107 + 1) (pX_RX11, prog_13_method_78_code, 5, (some .boolean)) 88 [some (.inr (.inl 51)), some (.inl x1), some (.inl x2), some (.inl x3), none] [] h q := by
  intro x1 x2 x3 h q e
  exact px_blk_ok (d := d + 107) (M := (pX_RX11, prog_13_method_78_code, 5, (some .boolean))) (C := mo_goRow_orc rc) (code := mo_goRow_code) (ld := [16]) (kl := [(16, fun ls st h => px_if (px_fit [61, 1, 1, 1, 0] ls && px_fits [] st) (r16 (px_gi ls 1) (px_gi ls 2) (px_gi ls 3) h))]) (mo_goRow_orc_ok hrc) pX_ok_RX11 mo_goRow_code_ok (px_k1 (px_ko (ts := [61, 1, 1, 1, 0]) (ss := []) fun ls st h q e => hr16 _ _ _ _ _ e) px_k0) 59 88 _ _ h q e
set_option maxRecDepth 200000 in
theorem mo_goRow_63_ok {d : Nat} {rc : pC} (hrc : px_Or (d + 107) rc) {r16 : Int32 → Int32 → Int32 → pH → pR} (hr16 : ∀ (x1 : Int32) (x2 : Int32) (x3 : Int32) (h : pH) (q : Int32 × pH), r16 x1 x2 x3 h = some q → px_G (d + 107 + 1) (pX_RX11, prog_13_method_78_code, 5, (some .boolean)) 16 [some (.inr (.inl 51)), some (.inl x1), some (.inl x2), some (.inl x3), none] [] h q) : ∀ (x1 : Int32) (x2 : Int32) (x3 : Int32) (h : pH) (q : Int32 × pH), mo_goRow_63 rc r16 x1 x2 x3 h = some q → px_G (d + 107 + 1) (pX_RX11, prog_13_method_78_code, 5, (some .boolean)) 63 [some (.inr (.inl 51)), some (.inl x1), some (.inl x2), some (.inl x3), none] [] h q := by
  intro x1 x2 x3 h q e
  exact px_blk_ok (d := d + 107) (M := (pX_RX11, prog_13_method_78_code, 5, (some .boolean))) (C := mo_goRow_orc rc) (code := mo_goRow_code) (ld := [88]) (kl := [(88, fun ls st h => px_if (px_fit [61, 1, 1, 1, 0] ls && px_fits [] st) (mo_goRow_88 rc r16 (px_gi ls 1) (px_gi ls 2) (px_gi ls 3) h))]) (mo_goRow_orc_ok hrc) pX_ok_RX11 mo_goRow_code_ok (px_k1 (px_ko (ts := [61, 1, 1, 1, 0]) (ss := []) fun ls st h q e => mo_goRow_88_ok hrc hr16 _ _ _ _ _ e) px_k0) 59 63 _ _ h q e
set_option maxRecDepth 200000 in
theorem mo_goRow_16_ok {d : Nat} {rc : pC} (hrc : px_Or (d + 107) rc) : ∀ (n : Nat) (x1 : Int32) (x2 : Int32) (x3 : Int32) (h : pH) (q : Int32 × pH), mo_goRow_16 rc n x1 x2 x3 h = some q → px_G (d + 107 + 1) (pX_RX11, prog_13_method_78_code, 5, (some .boolean)) 16 [some (.inr (.inl 51)), some (.inl x1), some (.inl x2), some (.inl x3), none] [] h q := by
  intro n
  induction n with
  | zero =>
    intro x1 x2 x3 h q e
    cases e
  | succ n ih =>
    intro x1 x2 x3 h q e
    exact px_blk_ok (d := d + 107) (M := (pX_RX11, prog_13_method_78_code, 5, (some .boolean))) (C := mo_goRow_orc rc) (code := mo_goRow_code) (ld := [63, 88]) (kl := [(63, fun ls st h => px_if (px_fit [61, 1, 1, 1, 0] ls && px_fits [] st) (mo_goRow_63 rc (mo_goRow_16 rc n) (px_gi ls 1) (px_gi ls 2) (px_gi ls 3) h)), (88, fun ls st h => px_if (px_fit [61, 1, 1, 1, 0] ls && px_fits [] st) (mo_goRow_88 rc (mo_goRow_16 rc n) (px_gi ls 1) (px_gi ls 2) (px_gi ls 3) h))]) (mo_goRow_orc_ok hrc) pX_ok_RX11 mo_goRow_code_ok (px_k1 (px_ko (ts := [61, 1, 1, 1, 0]) (ss := []) fun ls st h q e => mo_goRow_63_ok hrc ih _ _ _ _ _ e) (px_k1 (px_ko (ts := [61, 1, 1, 1, 0]) (ss := []) fun ls st h q e => mo_goRow_88_ok hrc ih _ _ _ _ _ e) px_k0)) 59 16 _ _ h q e
set_option maxRecDepth 200000 in
theorem mo_goRow_ok {d : Nat} {rc : pC} (hrc : px_Or (d + 107) rc) {x1 : Int32} {x2 : Int32} {h : pH} {q : Int32 × pH} (e : mo_goRow rc x1 x2 h = some q) : px_Con (d + 108) 250 [.inr (.inl 51), .inl x1, .inl x2] h q :=
  px_con (X := pX_RX11) (b := prog_13_method_78_code) (nL := 5) (rt := (some .boolean)) rfl rfl (Nat.le_of_ble_eq_true rfl) rfl (px_blk_ok (d := d + 107) (M := (pX_RX11, prog_13_method_78_code, 5, (some .boolean))) (C := mo_goRow_orc rc) (code := mo_goRow_code) (ld := [16]) (kl := [(16, fun ls st h => px_if (px_fit [61, 1, 1, 1, 0] ls && px_fits [] st) (mo_goRow_16 rc px_F (px_gi ls 1) (px_gi ls 2) (px_gi ls 3) h))]) (mo_goRow_orc_ok hrc) pX_ok_RX11 mo_goRow_code_ok (px_k1 (px_ko (ts := [61, 1, 1, 1, 0]) (ss := []) fun ls st h q e => mo_goRow_16_ok hrc _ _ _ _ _ _ e) px_k0) 59 0 _ _ _ q e)
noncomputable def mo_goRowG : Nat → pC
  | 0 => fun _ _ _ => none
  | n + 1 => px_orc [(250, fun a h => match a with
      | [.inr (.inl 51), .inl v1, .inl v2] => mo_goRow (mo_goRowG n) v1 v2 h
      | _ => none)]
theorem mo_goRowG_ok {d : Nat} : ∀ n : Nat, px_Or (d + n + 107) (mo_goRowG n) := by
  intro n
  induction n with
  | zero => intro id a h q e; cases e
  | succ n ih =>
    show px_Or (d + n + 107 + 1) _
    refine px_orc_ok ?_
    refine px_o1 (fun a h q e => by
      dsimp only at e
      split at e
      · exact mo_goRow_ok (d := d + n) ih e
      · cases e) ?_
    exact px_o0
noncomputable def mo_goRowT (x1 : Int32) (x2 : Int32) (h : pH) : pR := mo_goRowG px_n10 250 [.inr (.inl 51), .inl x1, .inl x2] h
theorem mo_goRowT_ok {d : Nat} {x1 : Int32} {x2 : Int32} {h : pH} {q : Int32 × pH} (e : mo_goRowT x1 x2 h = some q) : px_Con (d + 117) 250 [.inr (.inl 51), .inl x1, .inl x2] h q := by
  have h9 := mo_goRowG_ok (d := d) px_n10 250 _ h q e
  rw [px_n10_eq] at h9
  exact h9
/-! WordsUnsaidModel.goRows(II)Z -/
noncomputable def mo_goRows (x1 : Int32) (x2 : Int32) (h : pH) : pR :=
  let h1 := px_w h 51 30 (px_c 0)
  px_bind (mo_goRowT x1 x2 h1) fun z2 h3 =>
  px_bz z2 h3
def mo_goRows_code : pCode := [(0, .aload_n 0, 1), (1, .iconst 0, 1), (2, .putfield 292, 3), (5, .aload_n 0, 1), (6, .iload_n 1, 1), (7, .iload_n 2, 1), (8, .invokevirtual 389, 3), (11, .ireturn, 1)]
set_option maxRecDepth 200000 in
theorem mo_goRows_code_ok : px_code prog_13_method_77_code mo_goRows_code = true := by decide +kernel
noncomputable def mo_goRows_orc : pC := px_orc [(250, fun a h => match a with
    | [.inr (.inl 51), .inl v1, .inl v2] => mo_goRowT v1 v2 h
    | _ => none)]
theorem mo_goRows_orc_ok {d : Nat} : px_Or (d + 117) (mo_goRows_orc) := px_orc_ok (by
  refine px_o1 (fun a h q e => by
    dsimp only at e
    split at e
    · exact mo_goRowT_ok (d := d + 0) e
    · cases e) ?_
  exact px_o0)
set_option maxRecDepth 200000 in
theorem mo_goRows_ok {d : Nat} {x1 : Int32} {x2 : Int32} {h : pH} {q : Int32 × pH} (e : mo_goRows x1 x2 h = some q) : px_Con (d + 118) 249 [.inr (.inl 51), .inl x1, .inl x2] h q :=
  px_con (X := pX_RX11) (b := prog_13_method_77_code) (nL := 3) (rt := (some .boolean)) rfl rfl (Nat.le_of_ble_eq_true rfl) rfl (px_blk_ok (d := d + 117) (M := (pX_RX11, prog_13_method_77_code, 3, (some .boolean))) (C := mo_goRows_orc) (code := mo_goRows_code) (ld := []) (kl := []) (mo_goRows_orc_ok) pX_ok_RX11 mo_goRows_code_ok (px_k0) 13 0 _ _ _ q e)
/-! WordsUnsaidModel.leastRow([IIIII)I -/
noncomputable def mo_leastRow_12 : Nat → Int32 → Int32 → pH → pR
  | 0, _, _, _ => none
  | n + 1, x5, x6, h =>
    if x5 < x6 then
      some (px_c 0, h)
    else
      px_bind (mo_goRows x6 (px_c 0) h) fun z1 h2 =>
      if z1 = 0 then
        mo_leastRow_12 n x5 (x6 + px_c 1) h2
      else
        some (x6, h2)
noncomputable def mo_leastRow (a1 : Nat) (x2 : Int32) (x3 : Int32) (x4 : Int32) (x5 : Int32) (h : pH) : pR :=
  px_bind (mo_beginRows a1 x2 x3 x4 h) fun _ h2 =>
  mo_leastRow_12 px_F x5 (px_c 1) h2
def mo_leastRow_code : pCode := [(0, .aload_n 0, 1), (1, .aload_n 1, 1), (2, .iload_n 2, 1), (3, .iload_n 3, 1), (4, .iload 4, 2), (6, .invokevirtual 407, 3), (9, .iconst 1, 1), (10, .istore 6, 2), (12, .iload 6, 2), (14, .iload 5, 2), (16, .if_icmp .gt (22), 3), (19, .aload_n 0, 1), (20, .iload 6, 2), (22, .iconst 0, 1), (23, .invokevirtual 411, 3), (26, .ifCond .eq (6), 3), (29, .iload 6, 2), (31, .ireturn, 1), (32, .iinc 6 (1), 3), (35, .goto (-23), 3), (38, .iconst 0, 1), (39, .ireturn, 1)]
set_option maxRecDepth 200000 in
theorem mo_leastRow_code_ok : px_code prog_13_method_81_code mo_leastRow_code = true := by decide +kernel
noncomputable def mo_leastRow_orc : pC := px_orc [(249, fun a h => match a with
    | [.inr (.inl 51), .inl v1, .inl v2] => mo_goRows v1 v2 h
    | _ => none), (248, fun a h => match a with
    | [.inr (.inl 51), .inr (.inl v1), .inl v2, .inl v3, .inl v4] => mo_beginRows v1 v2 v3 v4 h
    | _ => none)]
theorem mo_leastRow_orc_ok {d : Nat} : px_Or (d + 118) (mo_leastRow_orc) := px_orc_ok (by
  refine px_o1 (fun a h q e => by
    dsimp only at e
    split at e
    · exact mo_goRows_ok (d := d + 0) e
    · cases e) ?_
  refine px_o1 (fun a h q e => by
    dsimp only at e
    split at e
    · exact mo_beginRows_ok (d := d + 116) e
    · cases e) ?_
  exact px_o0)
set_option maxRecDepth 200000 in
theorem mo_leastRow_12_ok {d : Nat} : ∀ (n : Nat) (x5 : Int32) (x6 : Int32) (h : pH) (q : Int32 × pH), mo_leastRow_12 n x5 x6 h = some q → px_G (d + 118 + 1) (pX_RX11, prog_13_method_81_code, 7, (some .int)) 12 [some (.inr (.inl 51)), none, none, none, none, some (.inl x5), some (.inl x6)] [] h q := by
  intro n
  induction n with
  | zero =>
    intro x5 x6 h q e
    cases e
  | succ n ih =>
    intro x5 x6 h q e
    exact px_blk_ok (d := d + 118) (M := (pX_RX11, prog_13_method_81_code, 7, (some .int))) (C := mo_leastRow_orc) (code := mo_leastRow_code) (ld := [12]) (kl := [(12, fun ls st h => px_if (px_fit [61, 0, 0, 0, 0, 1, 1] ls && px_fits [] st) (mo_leastRow_12 n (px_gi ls 5) (px_gi ls 6) h))]) (mo_leastRow_orc_ok) pX_ok_RX11 mo_leastRow_code_ok (px_k1 (px_ko (ts := [61, 0, 0, 0, 0, 1, 1]) (ss := []) fun ls st h q e => ih _ _ _ _ e) px_k0) 27 12 _ _ h q e
set_option maxRecDepth 200000 in
theorem mo_leastRow_ok {d : Nat} {a1 : Nat} {x2 : Int32} {x3 : Int32} {x4 : Int32} {x5 : Int32} {h : pH} {q : Int32 × pH} (e : mo_leastRow a1 x2 x3 x4 x5 h = some q) : px_Con (d + 119) 253 [.inr (.inl 51), .inr (.inl a1), .inl x2, .inl x3, .inl x4, .inl x5] h q :=
  px_con (X := pX_RX11) (b := prog_13_method_81_code) (nL := 7) (rt := (some .int)) rfl rfl (Nat.le_of_ble_eq_true rfl) rfl (px_blk_ok (d := d + 118) (M := (pX_RX11, prog_13_method_81_code, 7, (some .int))) (C := mo_leastRow_orc) (code := mo_leastRow_code) (ld := [12]) (kl := [(12, fun ls st h => px_if (px_fit [61, 0, 0, 0, 0, 1, 1] ls && px_fits [] st) (mo_leastRow_12 px_F (px_gi ls 5) (px_gi ls 6) h))]) (mo_leastRow_orc_ok) pX_ok_RX11 mo_leastRow_code_ok (px_k1 (px_ko (ts := [61, 0, 0, 0, 0, 1, 1]) (ss := []) fun ls st h q e => mo_leastRow_12_ok _ _ _ _ _ e) px_k0) 27 0 _ _ _ q e)
/-! WordsUnsaidModel.canGo(II)Z -/
noncomputable def mo_canGo_30 (s0 : Int32) (h : pH) : pR :=
  px_bz s0 h
noncomputable def mo_canGo_29 (h : pH) : pR :=
  mo_canGo_30 (px_c 0) h
noncomputable def mo_canGo (x1 : Int32) (x2 : Int32) (h : pH) : pR :=
  px_bind (mo_isPerson x1 h) fun z1 h2 =>
  if z1 = 0 then
    mo_canGo_29 h2
  else
    px_bind (mo_isBank x2 h2) fun z3 h4 =>
    if z3 = 0 then
      mo_canGo_29 h4
    else
      px_if (px_ok 0 52 x1) <|
      if (h4 52 x1.toNatClampNeg) = x2 then
        mo_canGo_29 h4
      else
        mo_canGo_30 (px_c 1) h4
def mo_canGo_code : pCode := [(0, .aload_n 0, 1), (1, .iload_n 1, 1), (2, .invokevirtual 122, 3), (5, .ifCond .eq (24), 3), (8, .iload_n 2, 1), (9, .invokestatic 302, 3), (12, .ifCond .eq (17), 3), (15, .aload_n 0, 1), (16, .getfield 9, 3), (19, .iload_n 1, 1), (20, .iaload, 1), (21, .iload_n 2, 1), (22, .if_icmp .eq (7), 3), (25, .iconst 1, 1), (26, .goto (4), 3), (29, .iconst 0, 1), (30, .ireturn, 1)]
set_option maxRecDepth 200000 in
theorem mo_canGo_code_ok : px_code prog_13_method_82_code mo_canGo_code = true := by decide +kernel
noncomputable def mo_canGo_orc : pC := px_orc [(179, fun a h => match a with
    | [.inr (.inl 51), .inl v1] => mo_isPerson v1 h
    | _ => none), (183, fun a h => match a with
    | [.inl v0] => mo_isBank v0 h
    | _ => none)]
theorem mo_canGo_orc_ok {d : Nat} : px_Or (d + 2) (mo_canGo_orc) := px_orc_ok (by
  refine px_o1 (fun a h q e => by
    dsimp only at e
    split at e
    · exact mo_isPerson_ok (d := d + 0) e
    · cases e) ?_
  refine px_o1 (fun a h q e => by
    dsimp only at e
    split at e
    · exact mo_isBank_ok (d := d + 0) e
    · cases e) ?_
  exact px_o0)
set_option maxRecDepth 200000 in
theorem mo_canGo_30_ok {d : Nat} : ∀ (s0 : Int32) (h : pH) (q : Int32 × pH), mo_canGo_30 s0 h = some q → px_G (d + 2 + 1) (pX_RX11, prog_13_method_82_code, 3, (some .boolean)) 30 [none, none, none] [.inl s0] h q := by
  intro s0 h q e
  exact px_blk_ok (d := d + 2) (M := (pX_RX11, prog_13_method_82_code, 3, (some .boolean))) (C := mo_canGo_orc) (code := mo_canGo_code) (ld := []) (kl := []) (mo_canGo_orc_ok) pX_ok_RX11 mo_canGo_code_ok (px_k0) 22 30 _ _ h q e
set_option maxRecDepth 200000 in
theorem mo_canGo_29_ok {d : Nat} : ∀ (h : pH) (q : Int32 × pH), mo_canGo_29 h = some q → px_G (d + 2 + 1) (pX_RX11, prog_13_method_82_code, 3, (some .boolean)) 29 [none, none, none] [] h q := by
  intro h q e
  exact px_blk_ok (d := d + 2) (M := (pX_RX11, prog_13_method_82_code, 3, (some .boolean))) (C := mo_canGo_orc) (code := mo_canGo_code) (ld := [30]) (kl := [(30, fun ls st h => px_if (px_fit [0, 0, 0] ls && px_fits [1] st) (mo_canGo_30 (px_si st 0) h))]) (mo_canGo_orc_ok) pX_ok_RX11 mo_canGo_code_ok (px_k1 (px_ko (ts := [0, 0, 0]) (ss := [1]) fun ls st h q e => mo_canGo_30_ok _ _ _ e) px_k0) 22 29 _ _ h q e
set_option maxRecDepth 200000 in
theorem mo_canGo_ok {d : Nat} {x1 : Int32} {x2 : Int32} {h : pH} {q : Int32 × pH} (e : mo_canGo x1 x2 h = some q) : px_Con (d + 3) 254 [.inr (.inl 51), .inl x1, .inl x2] h q :=
  px_con (X := pX_RX11) (b := prog_13_method_82_code) (nL := 3) (rt := (some .boolean)) rfl rfl (Nat.le_of_ble_eq_true rfl) rfl (px_blk_ok (d := d + 2) (M := (pX_RX11, prog_13_method_82_code, 3, (some .boolean))) (C := mo_canGo_orc) (code := mo_canGo_code) (ld := [29, 30]) (kl := [(29, fun ls st h => px_if (px_fit [0, 0, 0] ls && px_fits [] st) (mo_canGo_29 h)), (30, fun ls st h => px_if (px_fit [0, 0, 0] ls && px_fits [1] st) (mo_canGo_30 (px_si st 0) h))]) (mo_canGo_orc_ok) pX_ok_RX11 mo_canGo_code_ok (px_k1 (px_ko (ts := [0, 0, 0]) (ss := []) fun ls st h q e => mo_canGo_29_ok _ _ e) (px_k1 (px_ko (ts := [0, 0, 0]) (ss := [1]) fun ls st h q e => mo_canGo_30_ok _ _ _ e) px_k0)) 22 0 _ _ _ q e)
/-! WordsUnsaidModel.fewest(II)I -/
noncomputable def mo_fewest_51 : Nat → Int32 → Int32 → pH → pR
  | 0, _, _, _ => none
  | n + 1, x3, x4, h =>
    if x3 ≤ x4 then
      some (x3, h)
    else
      px_if (px_ok 0 65 x4) <|
      px_bind (mo_tell (h 65 x4.toNatClampNeg) h) fun _ h2 =>
      mo_fewest_51 n x3 (x4 + px_c 1) h2
noncomputable def mo_fewest_48 (x3 : Int32) (h : pH) : pR :=
  mo_fewest_51 px_F x3 (px_c 0) h
noncomputable def mo_fewest (x1 : Int32) (x2 : Int32) (h : pH) : pR :=
  let h1 := px_w h 51 14 (px_c 0)
  px_bind (mo_canGo x1 x2 h1) fun z2 h3 =>
  if z2 = 0 then
    some (px_c (-1), h3)
  else
    px_if (px_ok 0 52 x1) <|
    px_bind (mo_leastRow 52 ((px_c 1) <<< (x1 &&& 31)) (h3 52 x1.toNatClampNeg) x2 (px_c 4) h3) fun z4 h5 =>
    if z4 = 0 then
      some (px_c (-2), h5)
    else
      let h6 := px_w h5 51 13 (px_c 0)
      mo_fewest_48 z4 h6
def mo_fewest_code : pCode := [(0, .aload_n 0, 1), (1, .iconst 0, 1), (2, .putfield 106, 3), (5, .aload_n 0, 1), (6, .iload_n 1, 1), (7, .iload_n 2, 1), (8, .invokevirtual 414, 3), (11, .ifCond .ne (5), 3), (14, .iconst (-1), 1), (15, .ireturn, 1), (16, .aload_n 0, 1), (17, .aload_n 0, 1), (18, .getfield 9, 3), (21, .iconst 1, 1), (22, .iload_n 1, 1), (23, .ishl, 1), (24, .aload_n 0, 1), (25, .getfield 9, 3), (28, .iload_n 1, 1), (29, .iaload, 1), (30, .iload_n 2, 1), (31, .iconst 4, 1), (32, .invokevirtual 417, 3), (35, .istore_n 3, 1), (36, .iload_n 3, 1), (37, .ifCond .ne (6), 3), (40, .bipush (-2), 2), (42, .ireturn, 1), (43, .aload_n 0, 1), (44, .iconst 0, 1), (45, .putfield 109, 3), (48, .iconst 0, 1), (49, .istore 4, 2), (51, .iload 4, 2), (53, .iload_n 3, 1), (54, .if_icmp .ge (20), 3), (57, .aload_n 0, 1), (58, .aload_n 0, 1), (59, .getfield 54, 3), (62, .iload 4, 2), (64, .iaload, 1), (65, .invokevirtual 312, 3), (68, .iinc 4 (1), 3), (71, .goto (-20), 3), (74, .iload_n 3, 1), (75, .ireturn, 1)]
set_option maxRecDepth 200000 in
theorem mo_fewest_code_ok : px_code prog_13_method_83_code mo_fewest_code = true := by decide +kernel
noncomputable def mo_fewest_orc : pC := px_orc [(178, fun a h => match a with
    | [.inr (.inl 51), .inl v1] => mo_tell v1 h
    | _ => none), (254, fun a h => match a with
    | [.inr (.inl 51), .inl v1, .inl v2] => mo_canGo v1 v2 h
    | _ => none), (253, fun a h => match a with
    | [.inr (.inl 51), .inr (.inl v1), .inl v2, .inl v3, .inl v4, .inl v5] => mo_leastRow v1 v2 v3 v4 v5 h
    | _ => none)]
theorem mo_fewest_orc_ok {d : Nat} : px_Or (d + 119) (mo_fewest_orc) := px_orc_ok (by
  refine px_o1 (fun a h q e => by
    dsimp only at e
    split at e
    · exact mo_tell_ok (d := d + 118) e
    · cases e) ?_
  refine px_o1 (fun a h q e => by
    dsimp only at e
    split at e
    · exact mo_canGo_ok (d := d + 116) e
    · cases e) ?_
  refine px_o1 (fun a h q e => by
    dsimp only at e
    split at e
    · exact mo_leastRow_ok (d := d + 0) e
    · cases e) ?_
  exact px_o0)
set_option maxRecDepth 200000 in
theorem mo_fewest_51_ok {d : Nat} : ∀ (n : Nat) (x3 : Int32) (x4 : Int32) (h : pH) (q : Int32 × pH), mo_fewest_51 n x3 x4 h = some q → px_G (d + 119 + 1) (pX_RX11, prog_13_method_83_code, 5, (some .int)) 51 [some (.inr (.inl 51)), none, none, some (.inl x3), some (.inl x4)] [] h q := by
  intro n
  induction n with
  | zero =>
    intro x3 x4 h q e
    cases e
  | succ n ih =>
    intro x3 x4 h q e
    exact px_blk_ok (d := d + 119) (M := (pX_RX11, prog_13_method_83_code, 5, (some .int))) (C := mo_fewest_orc) (code := mo_fewest_code) (ld := [51]) (kl := [(51, fun ls st h => px_if (px_fit [61, 0, 0, 1, 1] ls && px_fits [] st) (mo_fewest_51 n (px_gi ls 3) (px_gi ls 4) h))]) (mo_fewest_orc_ok) pX_ok_RX11 mo_fewest_code_ok (px_k1 (px_ko (ts := [61, 0, 0, 1, 1]) (ss := []) fun ls st h q e => ih _ _ _ _ e) px_k0) 51 51 _ _ h q e
set_option maxRecDepth 200000 in
theorem mo_fewest_48_ok {d : Nat} : ∀ (x3 : Int32) (h : pH) (q : Int32 × pH), mo_fewest_48 x3 h = some q → px_G (d + 119 + 1) (pX_RX11, prog_13_method_83_code, 5, (some .int)) 48 [some (.inr (.inl 51)), none, none, some (.inl x3), none] [] h q := by
  intro x3 h q e
  exact px_blk_ok (d := d + 119) (M := (pX_RX11, prog_13_method_83_code, 5, (some .int))) (C := mo_fewest_orc) (code := mo_fewest_code) (ld := [51]) (kl := [(51, fun ls st h => px_if (px_fit [61, 0, 0, 1, 1] ls && px_fits [] st) (mo_fewest_51 px_F (px_gi ls 3) (px_gi ls 4) h))]) (mo_fewest_orc_ok) pX_ok_RX11 mo_fewest_code_ok (px_k1 (px_ko (ts := [61, 0, 0, 1, 1]) (ss := []) fun ls st h q e => mo_fewest_51_ok _ _ _ _ _ e) px_k0) 51 48 _ _ h q e
set_option maxRecDepth 200000 in
theorem mo_fewest_ok {d : Nat} {x1 : Int32} {x2 : Int32} {h : pH} {q : Int32 × pH} (e : mo_fewest x1 x2 h = some q) : px_Con (d + 120) 255 [.inr (.inl 51), .inl x1, .inl x2] h q :=
  px_con (X := pX_RX11) (b := prog_13_method_83_code) (nL := 5) (rt := (some .int)) rfl rfl (Nat.le_of_ble_eq_true rfl) rfl (px_blk_ok (d := d + 119) (M := (pX_RX11, prog_13_method_83_code, 5, (some .int))) (C := mo_fewest_orc) (code := mo_fewest_code) (ld := [48]) (kl := [(48, fun ls st h => px_if (px_fit [61, 0, 0, 1, 0] ls && px_fits [] st) (mo_fewest_48 (px_gi ls 3) h))]) (mo_fewest_orc_ok) pX_ok_RX11 mo_fewest_code_ok (px_k1 (px_ko (ts := [61, 0, 0, 1, 0]) (ss := []) fun ls st h q e => mo_fewest_48_ok _ _ _ e) px_k0) 51 0 _ _ _ q e)
/-! WordsUnsaidModel.rows(II)I -/
noncomputable def mo_rows_36 : Nat → Int32 → pH → pR
  | 0, _, _ => none
  | n + 1, x3, h =>
    if (px_c 3) < x3 then
      let h1 := px_w h 51 13 (px_c 0)
      px_bind (mo_tell (h1 51 46) h1) fun _ h3 =>
      some (h3 51 45, h3)
    else
      px_bind (mo_goRows x3 (px_c 1) h) fun z4 h5 =>
      mo_rows_36 n (x3 + px_c 1) h5
noncomputable def mo_rows (x1 : Int32) (x2 : Int32) (h : pH) : pR :=
  let h1 := px_w h 51 14 (px_c 0)
  px_bind (mo_canGo x1 x2 h1) fun z2 h3 =>
  if z2 = 0 then
    some (px_c (-1), h3)
  else
    px_if (px_ok 0 52 x1) <|
    px_bind (mo_beginRows 52 ((px_c 1) <<< (x1 &&& 31)) (h3 52 x1.toNatClampNeg) x2 h3) fun _ h5 =>
    mo_rows_36 px_F (px_c 1) h5
def mo_rows_code : pCode := [(0, .aload_n 0, 1), (1, .iconst 0, 1), (2, .putfield 106, 3), (5, .aload_n 0, 1), (6, .iload_n 1, 1), (7, .iload_n 2, 1), (8, .invokevirtual 414, 3), (11, .ifCond .ne (5), 3), (14, .iconst (-1), 1), (15, .ireturn, 1), (16, .aload_n 0, 1), (17, .aload_n 0, 1), (18, .getfield 9, 3), (21, .iconst 1, 1), (22, .iload_n 1, 1), (23, .ishl, 1), (24, .aload_n 0, 1), (25, .getfield 9, 3), (28, .iload_n 1, 1), (29, .iaload, 1), (30, .iload_n 2, 1), (31, .invokevirtual 407, 3), (34, .iconst 1, 1), (35, .istore_n 3, 1), (36, .iload_n 3, 1), (37, .iconst 3, 1), (38, .if_icmp .gt (16), 3), (41, .aload_n 0, 1), (42, .iload_n 3, 1), (43, .iconst 1, 1), (44, .invokevirtual 411, 3), (47, .pop, 1), (48, .iinc 3 (1), 3), (51, .goto (-15), 3), (54, .aload_n 0, 1), (55, .iconst 0, 1), (56, .putfield 109, 3), (59, .aload_n 0, 1), (60, .aload_n 0, 1), (61, .getfield 383, 3), (64, .invokevirtual 312, 3), (67, .aload_n 0, 1), (68, .getfield 380, 3), (71, .ireturn, 1)]
set_option maxRecDepth 200000 in
theorem mo_rows_code_ok : px_code prog_13_method_84_code mo_rows_code = true := by decide +kernel
noncomputable def mo_rows_orc : pC := px_orc [(178, fun a h => match a with
    | [.inr (.inl 51), .inl v1] => mo_tell v1 h
    | _ => none), (249, fun a h => match a with
    | [.inr (.inl 51), .inl v1, .inl v2] => mo_goRows v1 v2 h
    | _ => none), (254, fun a h => match a with
    | [.inr (.inl 51), .inl v1, .inl v2] => mo_canGo v1 v2 h
    | _ => none), (248, fun a h => match a with
    | [.inr (.inl 51), .inr (.inl v1), .inl v2, .inl v3, .inl v4] => mo_beginRows v1 v2 v3 v4 h
    | _ => none)]
theorem mo_rows_orc_ok {d : Nat} : px_Or (d + 118) (mo_rows_orc) := px_orc_ok (by
  refine px_o1 (fun a h q e => by
    dsimp only at e
    split at e
    · exact mo_tell_ok (d := d + 117) e
    · cases e) ?_
  refine px_o1 (fun a h q e => by
    dsimp only at e
    split at e
    · exact mo_goRows_ok (d := d + 0) e
    · cases e) ?_
  refine px_o1 (fun a h q e => by
    dsimp only at e
    split at e
    · exact mo_canGo_ok (d := d + 115) e
    · cases e) ?_
  refine px_o1 (fun a h q e => by
    dsimp only at e
    split at e
    · exact mo_beginRows_ok (d := d + 116) e
    · cases e) ?_
  exact px_o0)
set_option maxRecDepth 200000 in
theorem mo_rows_36_ok {d : Nat} : ∀ (n : Nat) (x3 : Int32) (h : pH) (q : Int32 × pH), mo_rows_36 n x3 h = some q → px_G (d + 118 + 1) (pX_RX11, prog_13_method_84_code, 4, (some .int)) 36 [some (.inr (.inl 51)), none, none, some (.inl x3)] [] h q := by
  intro n
  induction n with
  | zero =>
    intro x3 h q e
    cases e
  | succ n ih =>
    intro x3 h q e
    exact px_blk_ok (d := d + 118) (M := (pX_RX11, prog_13_method_84_code, 4, (some .int))) (C := mo_rows_orc) (code := mo_rows_code) (ld := [36]) (kl := [(36, fun ls st h => px_if (px_fit [61, 0, 0, 1] ls && px_fits [] st) (mo_rows_36 n (px_gi ls 3) h))]) (mo_rows_orc_ok) pX_ok_RX11 mo_rows_code_ok (px_k1 (px_ko (ts := [61, 0, 0, 1]) (ss := []) fun ls st h q e => ih _ _ _ e) px_k0) 49 36 _ _ h q e
set_option maxRecDepth 200000 in
theorem mo_rows_ok {d : Nat} {x1 : Int32} {x2 : Int32} {h : pH} {q : Int32 × pH} (e : mo_rows x1 x2 h = some q) : px_Con (d + 119) 256 [.inr (.inl 51), .inl x1, .inl x2] h q :=
  px_con (X := pX_RX11) (b := prog_13_method_84_code) (nL := 4) (rt := (some .int)) rfl rfl (Nat.le_of_ble_eq_true rfl) rfl (px_blk_ok (d := d + 118) (M := (pX_RX11, prog_13_method_84_code, 4, (some .int))) (C := mo_rows_orc) (code := mo_rows_code) (ld := [36]) (kl := [(36, fun ls st h => px_if (px_fit [61, 0, 0, 1] ls && px_fits [] st) (mo_rows_36 px_F (px_gi ls 3) h))]) (mo_rows_orc_ok) pX_ok_RX11 mo_rows_code_ok (px_k1 (px_ko (ts := [61, 0, 0, 1]) (ss := []) fun ls st h q e => mo_rows_36_ok _ _ _ _ e) px_k0) 49 0 _ _ _ q e)
/-! WordsUnsaidModel.isFree(II)Z -/
noncomputable def mo_isFree_38 (h : pH) : pR :=
  px_bz (px_c 0) h
noncomputable def mo_isFree_42 : Nat → Int32 → Int32 → pH → pR
  | 0, _, _, _ => none
  | n + 1, x2, x3, h =>
    if (h 51 52) ≤ x3 then
      px_bz (px_c 1) h
    else
      px_if (px_ok 0 73 x3) <|
      if (h 73 x3.toNatClampNeg) = x2 then
        px_bz (px_c 0) h
      else
        mo_isFree_42 n x2 (x3 + px_c 1) h
noncomputable def mo_isFree (x1 : Int32) (x2 : Int32) (h : pH) : pR :=
  px_if (px_ok 0 52 ((px_c 32) + x2)) <|
  if (h 52 ((px_c 32) + x2).toNatClampNeg) = x1 then
    px_if (px_ok 0 52 ((px_c 22) + x2)) <|
    if (h 52 ((px_c 22) + x2).toNatClampNeg) = (px_c 1) then
      mo_isFree_38 h
    else
      px_if (px_ok 0 52 ((px_c 12) + x2)) <|
      if (h 52 ((px_c 12) + x2).toNatClampNeg) = 0 then
        mo_isFree_38 h
      else
        mo_isFree_42 px_F x2 (px_c 0) h
  else
    mo_isFree_38 h
def mo_isFree_code : pCode := [(0, .aload_n 0, 1), (1, .getfield 9, 3), (4, .bipush (32), 2), (6, .iload_n 2, 1), (7, .iadd, 1), (8, .iaload, 1), (9, .iload_n 1, 1), (10, .if_icmp .ne (28), 3), (13, .aload_n 0, 1), (14, .getfield 9, 3), (17, .bipush (22), 2), (19, .iload_n 2, 1), (20, .iadd, 1), (21, .iaload, 1), (22, .iconst 1, 1), (23, .if_icmp .eq (15), 3), (26, .aload_n 0, 1), (27, .getfield 9, 3), (30, .bipush (12), 2), (32, .iload_n 2, 1), (33, .iadd, 1), (34, .iaload, 1), (35, .ifCond .ne (5), 3), (38, .iconst 0, 1), (39, .ireturn, 1), (40, .iconst 0, 1), (41, .istore_n 3, 1), (42, .iload_n 3, 1), (43, .aload_n 0, 1), (44, .getfield 420, 3), (47, .if_icmp .ge (21), 3), (50, .aload_n 0, 1), (51, .getfield 78, 3), (54, .iload_n 3, 1), (55, .iaload, 1), (56, .iload_n 2, 1), (57, .if_icmp .ne (5), 3), (60, .iconst 0, 1), (61, .ireturn, 1), (62, .iinc 3 (1), 3), (65, .goto (-23), 3), (68, .iconst 1, 1), (69, .ireturn, 1)]
set_option maxRecDepth 200000 in
theorem mo_isFree_code_ok : px_code prog_13_method_86_code mo_isFree_code = true := by decide +kernel
noncomputable def mo_isFree_orc : pC := px_orc []
theorem mo_isFree_orc_ok {d : Nat} : px_Or (d + 0) (mo_isFree_orc) := px_orc_ok (by
  exact px_o0)
set_option maxRecDepth 200000 in
theorem mo_isFree_38_ok {d : Nat} : ∀ (h : pH) (q : Int32 × pH), mo_isFree_38 h = some q → px_G (d + 0 + 1) (pX_RX11, prog_13_method_86_code, 4, (some .boolean)) 38 [none, none, none, none] [] h q := by
  intro h q e
  exact px_blk_ok (d := d + 0) (M := (pX_RX11, prog_13_method_86_code, 4, (some .boolean))) (C := mo_isFree_orc) (code := mo_isFree_code) (ld := []) (kl := []) (mo_isFree_orc_ok) pX_ok_RX11 mo_isFree_code_ok (px_k0) 48 38 _ _ h q e
set_option maxRecDepth 200000 in
theorem mo_isFree_42_ok {d : Nat} : ∀ (n : Nat) (x2 : Int32) (x3 : Int32) (h : pH) (q : Int32 × pH), mo_isFree_42 n x2 x3 h = some q → px_G (d + 0 + 1) (pX_RX11, prog_13_method_86_code, 4, (some .boolean)) 42 [some (.inr (.inl 51)), none, some (.inl x2), some (.inl x3)] [] h q := by
  intro n
  induction n with
  | zero =>
    intro x2 x3 h q e
    cases e
  | succ n ih =>
    intro x2 x3 h q e
    exact px_blk_ok (d := d + 0) (M := (pX_RX11, prog_13_method_86_code, 4, (some .boolean))) (C := mo_isFree_orc) (code := mo_isFree_code) (ld := [42]) (kl := [(42, fun ls st h => px_if (px_fit [61, 0, 1, 1] ls && px_fits [] st) (mo_isFree_42 n (px_gi ls 2) (px_gi ls 3) h))]) (mo_isFree_orc_ok) pX_ok_RX11 mo_isFree_code_ok (px_k1 (px_ko (ts := [61, 0, 1, 1]) (ss := []) fun ls st h q e => ih _ _ _ _ e) px_k0) 48 42 _ _ h q e
set_option maxRecDepth 200000 in
theorem mo_isFree_ok {d : Nat} {x1 : Int32} {x2 : Int32} {h : pH} {q : Int32 × pH} (e : mo_isFree x1 x2 h = some q) : px_Con (d + 1) 258 [.inr (.inl 51), .inl x1, .inl x2] h q :=
  px_con (X := pX_RX11) (b := prog_13_method_86_code) (nL := 4) (rt := (some .boolean)) rfl rfl (Nat.le_of_ble_eq_true rfl) rfl (px_blk_ok (d := d + 0) (M := (pX_RX11, prog_13_method_86_code, 4, (some .boolean))) (C := mo_isFree_orc) (code := mo_isFree_code) (ld := [42, 38]) (kl := [(42, fun ls st h => px_if (px_fit [61, 0, 1, 1] ls && px_fits [] st) (mo_isFree_42 px_F (px_gi ls 2) (px_gi ls 3) h)), (38, fun ls st h => px_if (px_fit [0, 0, 0, 0] ls && px_fits [] st) (mo_isFree_38 h))]) (mo_isFree_orc_ok) pX_ok_RX11 mo_isFree_code_ok (px_k1 (px_ko (ts := [61, 0, 1, 1]) (ss := []) fun ls st h q e => mo_isFree_42_ok _ _ _ _ _ e) (px_k1 (px_ko (ts := [0, 0, 0, 0]) (ss := []) fun ls st h q e => mo_isFree_38_ok _ _ e) px_k0)) 48 0 _ _ _ q e)
noncomputable def mo_goBack_94 (rc : pC) : Nat → Int32 → Int32 → Int32 → Int32 → Int32 → pH → pR
  | 0, _, _, _, _, _, _ => none
  | n + 1, x1, x2, x3, x4, x5, h =>
    if x3 ≤ x5 then
      px_bind (mo_wordsIn 52 h) fun z1 h2 =>
      px_if (px_ok 0 52 x1) <|
      px_bind (mo_distance (h2 52 x1.toNatClampNeg) x2 h2) fun z3 h4 =>
      if z3 ≤ z1 then
        px_bind (mo_lay 52 74 (px_c 0) h4) fun _ h6 =>
        px_if (px_ok 0 52 x1) <|
        px_bind (mo_goes 74 ((px_c 1) <<< (x1 &&& 31)) (h6 52 x1.toNatClampNeg) x2 h6) fun z7 h8 =>
        if z7 = 0 then
          px_bz (px_c 0) h8
        else
          px_if (px_ok 0 52 x1) <|
          px_bind (mo_beginRows 74 ((px_c 1) <<< (x1 &&& 31)) x2 (h8 52 x1.toNatClampNeg) h8) fun _ h10 =>
          px_bind (mo_goRows x4 (px_c 0) h10) fun z11 h12 =>
          px_bz z11 h12
      else
        px_bz (px_c 0) h4
    else
      px_if (px_ok 0 73 x5) <|
      px_if (px_ok 0 65 x5) <|
      let h13 := px_w h 65 x5.toNatClampNeg (h 73 x5.toNatClampNeg)
      mo_goBack_94 rc n x1 x2 x3 x4 (x5 + px_c 1) h13
noncomputable def mo_goBack_78 (rc : pC) (r11 : Int32 → Int32 → Int32 → Int32 → Int32 → pH → pR) (x1 : Int32) (x2 : Int32) (x3 : Int32) (x4 : Int32) (x5 : Int32) (h : pH) : pR :=
  r11 x1 x2 x3 x4 (x5 + px_c 1) h
noncomputable def mo_goBack_54 (rc : pC) (r11 : Int32 → Int32 → Int32 → Int32 → Int32 → pH → pR) (x1 : Int32) (x2 : Int32) (x3 : Int32) (x4 : Int32) (x5 : Int32) (h : pH) : pR :=
  px_bind (rc 257 [.inr (.inl 51), .inl x1, .inl x2, .inl x3, .inl x4] h) fun z1 h2 =>
  if z1 = 0 then
    let h3 := px_w h2 51 52 ((h2 51 52) - (px_c 1))
    mo_goBack_78 rc r11 x1 x2 x3 x4 x5 h3
  else
    px_bz (px_c 1) h2
noncomputable def mo_goBack_11 (rc : pC) : Nat → Int32 → Int32 → Int32 → Int32 → Int32 → pH → pR
  | 0, _, _, _, _, _, _ => none
  | n + 1, x1, x2, x3, x4, x5, h =>
    if (h 51 6) ≤ x5 then
      px_bz (px_c 0) h
    else
      px_bind (mo_isFree x1 x5 h) fun z1 h2 =>
      if z1 = 0 then
        mo_goBack_78 rc (mo_goBack_11 rc n) x1 x2 x3 x4 x5 h2
      else
        px_if (px_ok 0 73 (h2 51 52)) <|
        let h3 := px_w h2 73 (h2 51 52).toNatClampNeg x5
        let h4 := px_w h3 51 52 ((h3 51 52) + (px_c 1))
        mo_goBack_54 rc (mo_goBack_11 rc n) x1 x2 x3 x4 x5 h4
noncomputable def mo_goBack (rc : pC) (x1 : Int32) (x2 : Int32) (x3 : Int32) (x4 : Int32) (h : pH) : pR :=
  if x3 ≤ (h 51 52) then
    let h1 := px_w h 51 30 x3
    mo_goBack_94 rc px_F x1 x2 x3 x4 (px_c 0) h1
  else
    mo_goBack_11 rc px_F x1 x2 x3 x4 (px_c 0) h
def mo_goBack_code : pCode := [(0, .aload_n 0, 1), (1, .getfield 420, 3), (4, .iload_n 3, 1), (5, .if_icmp .ge (81), 3), (8, .iconst 0, 1), (9, .istore 5, 2), (11, .iload 5, 2), (13, .aload_n 0, 1), (14, .getfield 119, 3), (17, .if_icmp .ge (67), 3), (20, .aload_n 0, 1), (21, .iload_n 1, 1), (22, .iload 5, 2), (24, .invokevirtual 423, 3), (27, .ifCond .ne (6), 3), (30, .goto (48), 3), (33, .aload_n 0, 1), (34, .getfield 78, 3), (37, .aload_n 0, 1), (38, .getfield 420, 3), (41, .iload 5, 2), (43, .iastore, 1), (44, .aload_n 0, 1), (45, .dup, 1), (46, .getfield 420, 3), (49, .iconst 1, 1), (50, .iadd, 1), (51, .putfield 420, 3), (54, .aload_n 0, 1), (55, .iload_n 1, 1), (56, .iload_n 2, 1), (57, .iload_n 3, 1), (58, .iload 4, 2), (60, .invokevirtual 426, 3), (63, .ifCond .eq (5), 3), (66, .iconst 1, 1), (67, .ireturn, 1), (68, .aload_n 0, 1), (69, .dup, 1), (70, .getfield 420, 3), (73, .iconst 1, 1), (74, .isub, 1), (75, .putfield 420, 3), (78, .iinc 5 (1), 3), (81, .goto (-70), 3), (84, .iconst 0, 1), (85, .ireturn, 1), (86, .aload_n 0, 1), (87, .iload_n 3, 1), (88, .putfield 292, 3), (91, .iconst 0, 1), (92, .istore 5, 2), (94, .iload 5, 2), (96, .iload_n 3, 1), (97, .if_icmp .ge (23), 3), (100, .aload_n 0, 1), (101, .getfield 54, 3), (104, .iload 5, 2), (106, .aload_n 0, 1), (107, .getfield 78, 3), (110, .iload 5, 2), (112, .iaload, 1), (113, .iastore, 1), (114, .iinc 5 (1), 3), (117, .goto (-23), 3), (120, .aload_n 0, 1), (121, .aload_n 0, 1), (122, .getfield 9, 3), (125, .invokevirtual 309, 3), (128, .aload_n 0, 1), (129, .aload_n 0, 1), (130, .getfield 9, 3), (133, .iload_n 1, 1), (134, .iaload, 1), (135, .iload_n 2, 1), (136, .invokevirtual 268, 3), (139, .if_icmp .ge (5), 3), (142, .iconst 0, 1), (143, .ireturn, 1), (144, .aload_n 0, 1), (145, .getfield 9, 3), (148, .aload_n 0, 1), (149, .getfield 81, 3), (152, .iconst 0, 1), (153, .invokestatic 295, 3), (156, .aload_n 0, 1), (157, .aload_n 0, 1), (158, .getfield 81, 3), (161, .iconst 1, 1), (162, .iload_n 1, 1), (163, .ishl, 1), (164, .aload_n 0, 1), (165, .getfield 9, 3), (168, .iload_n 1, 1), (169, .iaload, 1), (170, .iload_n 2, 1), (171, .invokevirtual 326, 3), (174, .ifCond .ne (5), 3), (177, .iconst 0, 1), (178, .ireturn, 1), (179, .aload_n 0, 1), (180, .aload_n 0, 1), (181, .getfield 81, 3), (184, .iconst 1, 1), (185, .iload_n 1, 1), (186, .ishl, 1), (187, .iload_n 2, 1), (188, .aload_n 0, 1), (189, .getfield 9, 3), (192, .iload_n 1, 1), (193, .iaload, 1), (194, .invokevirtual 407, 3), (197, .aload_n 0, 1), (198, .iload 4, 2), (200, .iconst 0, 1), (201, .invokevirtual 411, 3), (204, .ireturn, 1)]
set_option maxRecDepth 200000 in
theorem mo_goBack_code_ok : px_code prog_13_method_85_code mo_goBack_code = true := by decide +kernel
noncomputable def mo_goBack_orc (rc : pC) : pC := fun id a h => match px_mem [257] id with
  | true => rc id a h
  | false => px_orc [(222, fun a h => match a with
    | [.inr (.inl 51), .inr (.inl v1)] => mo_wordsIn v1 h
    | _ => none), (218, fun a h => match a with
    | [.inr (.inl 51), .inl v1, .inl v2] => mo_distance v1 v2 h
    | _ => none), (223, fun a h => match a with
    | [.inr (.inl v0), .inr (.inl v1), .inl v2] => mo_lay v0 v1 v2 h
    | _ => none), (219, fun a h => match a with
    | [.inr (.inl 51), .inr (.inl v1), .inl v2, .inl v3, .inl v4] => mo_goes v1 v2 v3 v4 h
    | _ => none), (248, fun a h => match a with
    | [.inr (.inl 51), .inr (.inl v1), .inl v2, .inl v3, .inl v4] => mo_beginRows v1 v2 v3 v4 h
    | _ => none), (249, fun a h => match a with
    | [.inr (.inl 51), .inl v1, .inl v2] => mo_goRows v1 v2 h
    | _ => none), (258, fun a h => match a with
    | [.inr (.inl 51), .inl v1, .inl v2] => mo_isFree v1 v2 h
    | _ => none)] id a h
theorem mo_goBack_orc_ok {d : Nat} {rc : pC} (hrc : px_Or (d + 118) rc) : px_Or (d + 118) (mo_goBack_orc rc) := by
  intro id a h q e
  unfold mo_goBack_orc at e
  split at e
  · exact hrc id a h q e
  · exact (px_orc_ok (by
      refine px_o1 (fun a h q e => by
        dsimp only at e
        split at e
        · exact mo_wordsIn_ok (d := d + 117) e
        · cases e) ?_
      refine px_o1 (fun a h q e => by
        dsimp only at e
        split at e
        · exact mo_distance_ok (d := d + 116) e
        · cases e) ?_
      refine px_o1 (fun a h q e => by
        dsimp only at e
        split at e
        · exact mo_lay_ok (d := d + 117) e
        · cases e) ?_
      refine px_o1 (fun a h q e => by
        dsimp only at e
        split at e
        · exact mo_goes_ok (d := d + 12) e
        · cases e) ?_
      refine px_o1 (fun a h q e => by
        dsimp only at e
        split at e
        · exact mo_beginRows_ok (d := d + 116) e
        · cases e) ?_
      refine px_o1 (fun a h q e => by
        dsimp only at e
        split at e
        · exact mo_goRows_ok (d := d + 0) e
        · cases e) ?_
      refine px_o1 (fun a h q e => by
        dsimp only at e
        split at e
        · exact mo_isFree_ok (d := d + 117) e
        · cases e) ?_
      exact px_o0) : px_Or _ (px_orc [(222, fun a h => match a with
    | [.inr (.inl 51), .inr (.inl v1)] => mo_wordsIn v1 h
    | _ => none), (218, fun a h => match a with
    | [.inr (.inl 51), .inl v1, .inl v2] => mo_distance v1 v2 h
    | _ => none), (223, fun a h => match a with
    | [.inr (.inl v0), .inr (.inl v1), .inl v2] => mo_lay v0 v1 v2 h
    | _ => none), (219, fun a h => match a with
    | [.inr (.inl 51), .inr (.inl v1), .inl v2, .inl v3, .inl v4] => mo_goes v1 v2 v3 v4 h
    | _ => none), (248, fun a h => match a with
    | [.inr (.inl 51), .inr (.inl v1), .inl v2, .inl v3, .inl v4] => mo_beginRows v1 v2 v3 v4 h
    | _ => none), (249, fun a h => match a with
    | [.inr (.inl 51), .inl v1, .inl v2] => mo_goRows v1 v2 h
    | _ => none), (258, fun a h => match a with
    | [.inr (.inl 51), .inl v1, .inl v2] => mo_isFree v1 v2 h
    | _ => none)])) id a h q e
set_option maxRecDepth 200000 in
theorem mo_goBack_94_ok {d : Nat} {rc : pC} (hrc : px_Or (d + 118) rc) : ∀ (n : Nat) (x1 : Int32) (x2 : Int32) (x3 : Int32) (x4 : Int32) (x5 : Int32) (h : pH) (q : Int32 × pH), mo_goBack_94 rc n x1 x2 x3 x4 x5 h = some q → px_G (d + 118 + 1) (pX_RX11, prog_13_method_85_code, 6, (some .boolean)) 94 [some (.inr (.inl 51)), some (.inl x1), some (.inl x2), some (.inl x3), some (.inl x4), some (.inl x5)] [] h q := by
  intro n
  induction n with
  | zero =>
    intro x1 x2 x3 x4 x5 h q e
    cases e
  | succ n ih =>
    intro x1 x2 x3 x4 x5 h q e
    exact px_blk_ok (d := d + 118) (M := (pX_RX11, prog_13_method_85_code, 6, (some .boolean))) (C := mo_goBack_orc rc) (code := mo_goBack_code) (ld := [94]) (kl := [(94, fun ls st h => px_if (px_fit [61, 1, 1, 1, 1, 1] ls && px_fits [] st) (mo_goBack_94 rc n (px_gi ls 1) (px_gi ls 2) (px_gi ls 3) (px_gi ls 4) (px_gi ls 5) h))]) (mo_goBack_orc_ok hrc) pX_ok_RX11 mo_goBack_code_ok (px_k1 (px_ko (ts := [61, 1, 1, 1, 1, 1]) (ss := []) fun ls st h q e => ih _ _ _ _ _ _ _ e) px_k0) 122 94 _ _ h q e
set_option maxRecDepth 200000 in
theorem mo_goBack_78_ok {d : Nat} {rc : pC} (hrc : px_Or (d + 118) rc) {r11 : Int32 → Int32 → Int32 → Int32 → Int32 → pH → pR} (hr11 : ∀ (x1 : Int32) (x2 : Int32) (x3 : Int32) (x4 : Int32) (x5 : Int32) (h : pH) (q : Int32 × pH), r11 x1 x2 x3 x4 x5 h = some q → px_G (d + 118 + 1) (pX_RX11, prog_13_method_85_code, 6, (some .boolean)) 11 [some (.inr (.inl 51)), some (.inl x1), some (.inl x2), some (.inl x3), some (.inl x4), some (.inl x5)] [] h q) : ∀ (x1 : Int32) (x2 : Int32) (x3 : Int32) (x4 : Int32) (x5 : Int32) (h : pH) (q : Int32 × pH), mo_goBack_78 rc r11 x1 x2 x3 x4 x5 h = some q → px_G (d + 118 + 1) (pX_RX11, prog_13_method_85_code, 6, (some .boolean)) 78 [some (.inr (.inl 51)), some (.inl x1), some (.inl x2), some (.inl x3), some (.inl x4), some (.inl x5)] [] h q := by
  intro x1 x2 x3 x4 x5 h q e
  exact px_blk_ok (d := d + 118) (M := (pX_RX11, prog_13_method_85_code, 6, (some .boolean))) (C := mo_goBack_orc rc) (code := mo_goBack_code) (ld := [11]) (kl := [(11, fun ls st h => px_if (px_fit [61, 1, 1, 1, 1, 1] ls && px_fits [] st) (r11 (px_gi ls 1) (px_gi ls 2) (px_gi ls 3) (px_gi ls 4) (px_gi ls 5) h))]) (mo_goBack_orc_ok hrc) pX_ok_RX11 mo_goBack_code_ok (px_k1 (px_ko (ts := [61, 1, 1, 1, 1, 1]) (ss := []) fun ls st h q e => hr11 _ _ _ _ _ _ _ e) px_k0) 122 78 _ _ h q e
set_option maxRecDepth 200000 in
theorem mo_goBack_54_ok {d : Nat} {rc : pC} (hrc : px_Or (d + 118) rc) {r11 : Int32 → Int32 → Int32 → Int32 → Int32 → pH → pR} (hr11 : ∀ (x1 : Int32) (x2 : Int32) (x3 : Int32) (x4 : Int32) (x5 : Int32) (h : pH) (q : Int32 × pH), r11 x1 x2 x3 x4 x5 h = some q → px_G (d + 118 + 1) (pX_RX11, prog_13_method_85_code, 6, (some .boolean)) 11 [some (.inr (.inl 51)), some (.inl x1), some (.inl x2), some (.inl x3), some (.inl x4), some (.inl x5)] [] h q) : ∀ (x1 : Int32) (x2 : Int32) (x3 : Int32) (x4 : Int32) (x5 : Int32) (h : pH) (q : Int32 × pH), mo_goBack_54 rc r11 x1 x2 x3 x4 x5 h = some q → px_G (d + 118 + 1) (pX_RX11, prog_13_method_85_code, 6, (some .boolean)) 54 [some (.inr (.inl 51)), some (.inl x1), some (.inl x2), some (.inl x3), some (.inl x4), some (.inl x5)] [] h q := by
  intro x1 x2 x3 x4 x5 h q e
  exact px_blk_ok (d := d + 118) (M := (pX_RX11, prog_13_method_85_code, 6, (some .boolean))) (C := mo_goBack_orc rc) (code := mo_goBack_code) (ld := [78]) (kl := [(78, fun ls st h => px_if (px_fit [61, 1, 1, 1, 1, 1] ls && px_fits [] st) (mo_goBack_78 rc r11 (px_gi ls 1) (px_gi ls 2) (px_gi ls 3) (px_gi ls 4) (px_gi ls 5) h))]) (mo_goBack_orc_ok hrc) pX_ok_RX11 mo_goBack_code_ok (px_k1 (px_ko (ts := [61, 1, 1, 1, 1, 1]) (ss := []) fun ls st h q e => mo_goBack_78_ok hrc hr11 _ _ _ _ _ _ _ e) px_k0) 122 54 _ _ h q e
set_option maxRecDepth 200000 in
theorem mo_goBack_11_ok {d : Nat} {rc : pC} (hrc : px_Or (d + 118) rc) : ∀ (n : Nat) (x1 : Int32) (x2 : Int32) (x3 : Int32) (x4 : Int32) (x5 : Int32) (h : pH) (q : Int32 × pH), mo_goBack_11 rc n x1 x2 x3 x4 x5 h = some q → px_G (d + 118 + 1) (pX_RX11, prog_13_method_85_code, 6, (some .boolean)) 11 [some (.inr (.inl 51)), some (.inl x1), some (.inl x2), some (.inl x3), some (.inl x4), some (.inl x5)] [] h q := by
  intro n
  induction n with
  | zero =>
    intro x1 x2 x3 x4 x5 h q e
    cases e
  | succ n ih =>
    intro x1 x2 x3 x4 x5 h q e
    exact px_blk_ok (d := d + 118) (M := (pX_RX11, prog_13_method_85_code, 6, (some .boolean))) (C := mo_goBack_orc rc) (code := mo_goBack_code) (ld := [54, 78]) (kl := [(54, fun ls st h => px_if (px_fit [61, 1, 1, 1, 1, 1] ls && px_fits [] st) (mo_goBack_54 rc (mo_goBack_11 rc n) (px_gi ls 1) (px_gi ls 2) (px_gi ls 3) (px_gi ls 4) (px_gi ls 5) h)), (78, fun ls st h => px_if (px_fit [61, 1, 1, 1, 1, 1] ls && px_fits [] st) (mo_goBack_78 rc (mo_goBack_11 rc n) (px_gi ls 1) (px_gi ls 2) (px_gi ls 3) (px_gi ls 4) (px_gi ls 5) h))]) (mo_goBack_orc_ok hrc) pX_ok_RX11 mo_goBack_code_ok (px_k1 (px_ko (ts := [61, 1, 1, 1, 1, 1]) (ss := []) fun ls st h q e => mo_goBack_54_ok hrc ih _ _ _ _ _ _ _ e) (px_k1 (px_ko (ts := [61, 1, 1, 1, 1, 1]) (ss := []) fun ls st h q e => mo_goBack_78_ok hrc ih _ _ _ _ _ _ _ e) px_k0)) 122 11 _ _ h q e
set_option maxRecDepth 200000 in
theorem mo_goBack_ok {d : Nat} {rc : pC} (hrc : px_Or (d + 118) rc) {x1 : Int32} {x2 : Int32} {x3 : Int32} {x4 : Int32} {h : pH} {q : Int32 × pH} (e : mo_goBack rc x1 x2 x3 x4 h = some q) : px_Con (d + 119) 257 [.inr (.inl 51), .inl x1, .inl x2, .inl x3, .inl x4] h q :=
  px_con (X := pX_RX11) (b := prog_13_method_85_code) (nL := 6) (rt := (some .boolean)) rfl rfl (Nat.le_of_ble_eq_true rfl) rfl (px_blk_ok (d := d + 118) (M := (pX_RX11, prog_13_method_85_code, 6, (some .boolean))) (C := mo_goBack_orc rc) (code := mo_goBack_code) (ld := [11, 94]) (kl := [(11, fun ls st h => px_if (px_fit [61, 1, 1, 1, 1, 1] ls && px_fits [] st) (mo_goBack_11 rc px_F (px_gi ls 1) (px_gi ls 2) (px_gi ls 3) (px_gi ls 4) (px_gi ls 5) h)), (94, fun ls st h => px_if (px_fit [61, 1, 1, 1, 1, 1] ls && px_fits [] st) (mo_goBack_94 rc px_F (px_gi ls 1) (px_gi ls 2) (px_gi ls 3) (px_gi ls 4) (px_gi ls 5) h))]) (mo_goBack_orc_ok hrc) pX_ok_RX11 mo_goBack_code_ok (px_k1 (px_ko (ts := [61, 1, 1, 1, 1, 1]) (ss := []) fun ls st h q e => mo_goBack_11_ok hrc _ _ _ _ _ _ _ _ e) (px_k1 (px_ko (ts := [61, 1, 1, 1, 1, 1]) (ss := []) fun ls st h q e => mo_goBack_94_ok hrc _ _ _ _ _ _ _ _ e) px_k0)) 122 0 _ _ _ q e)
noncomputable def mo_goBackG : Nat → pC
  | 0 => fun _ _ _ => none
  | n + 1 => px_orc [(257, fun a h => match a with
      | [.inr (.inl 51), .inl v1, .inl v2, .inl v3, .inl v4] => mo_goBack (mo_goBackG n) v1 v2 v3 v4 h
      | _ => none)]
theorem mo_goBackG_ok {d : Nat} : ∀ n : Nat, px_Or (d + n + 118) (mo_goBackG n) := by
  intro n
  induction n with
  | zero => intro id a h q e; cases e
  | succ n ih =>
    show px_Or (d + n + 118 + 1) _
    refine px_orc_ok ?_
    refine px_o1 (fun a h q e => by
      dsimp only at e
      split at e
      · exact mo_goBack_ok (d := d + n) ih e
      · cases e) ?_
    exact px_o0
noncomputable def mo_goBackT (x1 : Int32) (x2 : Int32) (x3 : Int32) (x4 : Int32) (h : pH) : pR := mo_goBackG px_n10 257 [.inr (.inl 51), .inl x1, .inl x2, .inl x3, .inl x4] h
theorem mo_goBackT_ok {d : Nat} {x1 : Int32} {x2 : Int32} {x3 : Int32} {x4 : Int32} {h : pH} {q : Int32 × pH} (e : mo_goBackT x1 x2 x3 x4 h = some q) : px_Con (d + 128) 257 [.inr (.inl 51), .inl x1, .inl x2, .inl x3, .inl x4] h q := by
  have h9 := mo_goBackG_ok (d := d) px_n10 257 _ h q e
  rw [px_n10_eq] at h9
  exact h9
/-! WordsUnsaidModel.back(II)I -/
noncomputable def mo_back_24 (h : pH) : pR :=
  some (px_c (-1), h)
noncomputable def mo_back_122 : Nat → Int32 → Int32 → Int32 → pH → pR
  | 0, _, _, _, _ => none
  | n + 1, x3, x4, x5, h =>
    if (x3 - x4) ≤ x5 then
      some (x3, h)
    else
      px_if (px_ok 0 65 x5) <|
      px_bind (mo_tell (h 65 x5.toNatClampNeg) h) fun _ h2 =>
      mo_back_122 n x3 x4 (x5 + px_c 1) h2
noncomputable def mo_back_95 : Nat → Int32 → Int32 → Int32 → pH → pR
  | 0, _, _, _, _ => none
  | n + 1, x3, x4, x5, h =>
    if x4 ≤ x5 then
      mo_back_122 px_F x3 x4 (px_c 0) h
    else
      px_if (px_ok 0 73 x5) <|
      px_bind (mo_tell (h 73 x5.toNatClampNeg) h) fun _ h2 =>
      mo_back_95 n x3 x4 (x5 + px_c 1) h2
noncomputable def mo_back_86 (x3 : Int32) (x4 : Int32) (h : pH) : pR :=
  px_bind (mo_tell x4 h) fun _ h2 =>
  mo_back_95 px_F x3 x4 (px_c 0) h2
noncomputable def mo_back_150 (r28 : Int32 → Int32 → Int32 → pH → pR) (r37 : Int32 → Int32 → Int32 → Int32 → pH → pR) (x1 : Int32) (x2 : Int32) (x3 : Int32) (x4 : Int32) (h : pH) : pR :=
  r37 x1 x2 x3 (x4 + px_c 1) h
noncomputable def mo_back_37 (r28 : Int32 → Int32 → Int32 → pH → pR) : Nat → Int32 → Int32 → Int32 → Int32 → pH → pR
  | 0, _, _, _, _, _ => none
  | n + 1, x1, x2, x3, x4, h =>
    if (px_c 3) < x4 then
      r28 x1 x2 (x3 + px_c 1) h
    else
      px_bind (mo_in (x3 - x4) (px_c 1) (px_c 3) h) fun z1 h2 =>
      if z1 = 0 then
        mo_back_150 r28 (mo_back_37 r28 n) x1 x2 x3 x4 h2
      else
        let h3 := px_w h2 51 52 (px_c 0)
        px_bind (mo_goBackT x1 x2 x4 (x3 - x4) h3) fun z4 h5 =>
        if z4 = 0 then
          mo_back_150 r28 (mo_back_37 r28 n) x1 x2 x3 x4 h5
        else
          let h6 := px_w h5 51 13 (px_c 0)
          mo_back_86 x3 x4 h6
noncomputable def mo_back_28 : Nat → Int32 → Int32 → Int32 → pH → pR
  | 0, _, _, _, _ => none
  | n + 1, x1, x2, x3, h =>
    if (px_c 6) < x3 then
      some (px_c (-2), h)
    else
      mo_back_37 (mo_back_28 n) px_F x1 x2 x3 (px_c 1) h
noncomputable def mo_back (x1 : Int32) (x2 : Int32) (h : pH) : pR :=
  let h1 := px_w h 51 14 (px_c 0)
  px_bind (mo_canGo x1 x2 h1) fun z2 h3 =>
  if z2 = 0 then
    mo_back_24 h3
  else
    px_if (px_ok 0 52 x1) <|
    if (h3 52 x1.toNatClampNeg) ≤ (px_c 1) then
      mo_back_28 px_F x1 x2 (px_c 2) h3
    else
      mo_back_24 h3
def mo_back_code : pCode := [(0, .aload_n 0, 1), (1, .iconst 0, 1), (2, .putfield 106, 3), (5, .aload_n 0, 1), (6, .iload_n 1, 1), (7, .iload_n 2, 1), (8, .invokevirtual 414, 3), (11, .ifCond .eq (13), 3), (14, .aload_n 0, 1), (15, .getfield 9, 3), (18, .iload_n 1, 1), (19, .iaload, 1), (20, .iconst 1, 1), (21, .if_icmp .le (5), 3), (24, .iconst (-1), 1), (25, .ireturn, 1), (26, .iconst 2, 1), (27, .istore_n 3, 1), (28, .iload_n 3, 1), (29, .bipush (6), 2), (31, .if_icmp .gt (131), 3), (34, .iconst 1, 1), (35, .istore 4, 2), (37, .iload 4, 2), (39, .iconst 3, 1), (40, .if_icmp .gt (116), 3), (43, .iload_n 3, 1), (44, .iload 4, 2), (46, .isub, 1), (47, .iconst 1, 1), (48, .iconst 3, 1), (49, .invokestatic 115, 3), (52, .ifCond .ne (6), 3), (55, .goto (95), 3), (58, .aload_n 0, 1), (59, .iconst 0, 1), (60, .putfield 420, 3), (63, .aload_n 0, 1), (64, .iload_n 1, 1), (65, .iload_n 2, 1), (66, .iload 4, 2), (68, .iload_n 3, 1), (69, .iload 4, 2), (71, .isub, 1), (72, .invokevirtual 426, 3), (75, .ifCond .ne (6), 3), (78, .goto (72), 3), (81, .aload_n 0, 1), (82, .iconst 0, 1), (83, .putfield 109, 3), (86, .aload_n 0, 1), (87, .iload 4, 2), (89, .invokevirtual 312, 3), (92, .iconst 0, 1), (93, .istore 5, 2), (95, .iload 5, 2), (97, .iload 4, 2), (99, .if_icmp .ge (20), 3), (102, .aload_n 0, 1), (103, .aload_n 0, 1), (104, .getfield 78, 3), (107, .iload 5, 2), (109, .iaload, 1), (110, .invokevirtual 312, 3), (113, .iinc 5 (1), 3), (116, .goto (-21), 3), (119, .iconst 0, 1), (120, .istore 5, 2), (122, .iload 5, 2), (124, .iload_n 3, 1), (125, .iload 4, 2), (127, .isub, 1), (128, .if_icmp .ge (20), 3), (131, .aload_n 0, 1), (132, .aload_n 0, 1), (133, .getfield 54, 3), (136, .iload 5, 2), (138, .iaload, 1), (139, .invokevirtual 312, 3), (142, .iinc 5 (1), 3), (145, .goto (-23), 3), (148, .iload_n 3, 1), (149, .ireturn, 1), (150, .iinc 4 (1), 3), (153, .goto (-116), 3), (156, .iinc 3 (1), 3), (159, .goto (-131), 3), (162, .bipush (-2), 2), (164, .ireturn, 1)]
set_option maxRecDepth 200000 in
theorem mo_back_code_ok : px_code prog_13_method_87_code mo_back_code = true := by decide +kernel
noncomputable def mo_back_orc : pC := px_orc [(178, fun a h => match a with
    | [.inr (.inl 51), .inl v1] => mo_tell v1 h
    | _ => none), (175, fun a h => match a with
    | [.inl v0, .inl v1, .inl v2] => mo_in v0 v1 v2 h
    | _ => none), (257, fun a h => match a with
    | [.inr (.inl 51), .inl v1, .inl v2, .inl v3, .inl v4] => mo_goBackT v1 v2 v3 v4 h
    | _ => none), (254, fun a h => match a with
    | [.inr (.inl 51), .inl v1, .inl v2] => mo_canGo v1 v2 h
    | _ => none)]
theorem mo_back_orc_ok {d : Nat} : px_Or (d + 128) (mo_back_orc) := px_orc_ok (by
  refine px_o1 (fun a h q e => by
    dsimp only at e
    split at e
    · exact mo_tell_ok (d := d + 127) e
    · cases e) ?_
  refine px_o1 (fun a h q e => by
    dsimp only at e
    split at e
    · exact mo_in_ok (d := d + 127) e
    · cases e) ?_
  refine px_o1 (fun a h q e => by
    dsimp only at e
    split at e
    · exact mo_goBackT_ok (d := d + 0) e
    · cases e) ?_
  refine px_o1 (fun a h q e => by
    dsimp only at e
    split at e
    · exact mo_canGo_ok (d := d + 125) e
    · cases e) ?_
  exact px_o0)
set_option maxRecDepth 200000 in
theorem mo_back_24_ok {d : Nat} : ∀ (h : pH) (q : Int32 × pH), mo_back_24 h = some q → px_G (d + 128 + 1) (pX_RX11, prog_13_method_87_code, 6, (some .int)) 24 [none, none, none, none, none, none] [] h q := by
  intro h q e
  exact px_blk_ok (d := d + 128) (M := (pX_RX11, prog_13_method_87_code, 6, (some .int))) (C := mo_back_orc) (code := mo_back_code) (ld := []) (kl := []) (mo_back_orc_ok) pX_ok_RX11 mo_back_code_ok (px_k0) 94 24 _ _ h q e
set_option maxRecDepth 200000 in
theorem mo_back_122_ok {d : Nat} : ∀ (n : Nat) (x3 : Int32) (x4 : Int32) (x5 : Int32) (h : pH) (q : Int32 × pH), mo_back_122 n x3 x4 x5 h = some q → px_G (d + 128 + 1) (pX_RX11, prog_13_method_87_code, 6, (some .int)) 122 [some (.inr (.inl 51)), none, none, some (.inl x3), some (.inl x4), some (.inl x5)] [] h q := by
  intro n
  induction n with
  | zero =>
    intro x3 x4 x5 h q e
    cases e
  | succ n ih =>
    intro x3 x4 x5 h q e
    exact px_blk_ok (d := d + 128) (M := (pX_RX11, prog_13_method_87_code, 6, (some .int))) (C := mo_back_orc) (code := mo_back_code) (ld := [122]) (kl := [(122, fun ls st h => px_if (px_fit [61, 0, 0, 1, 1, 1] ls && px_fits [] st) (mo_back_122 n (px_gi ls 3) (px_gi ls 4) (px_gi ls 5) h))]) (mo_back_orc_ok) pX_ok_RX11 mo_back_code_ok (px_k1 (px_ko (ts := [61, 0, 0, 1, 1, 1]) (ss := []) fun ls st h q e => ih _ _ _ _ _ e) px_k0) 94 122 _ _ h q e
set_option maxRecDepth 200000 in
theorem mo_back_95_ok {d : Nat} : ∀ (n : Nat) (x3 : Int32) (x4 : Int32) (x5 : Int32) (h : pH) (q : Int32 × pH), mo_back_95 n x3 x4 x5 h = some q → px_G (d + 128 + 1) (pX_RX11, prog_13_method_87_code, 6, (some .int)) 95 [some (.inr (.inl 51)), none, none, some (.inl x3), some (.inl x4), some (.inl x5)] [] h q := by
  intro n
  induction n with
  | zero =>
    intro x3 x4 x5 h q e
    cases e
  | succ n ih =>
    intro x3 x4 x5 h q e
    exact px_blk_ok (d := d + 128) (M := (pX_RX11, prog_13_method_87_code, 6, (some .int))) (C := mo_back_orc) (code := mo_back_code) (ld := [95, 122]) (kl := [(95, fun ls st h => px_if (px_fit [61, 0, 0, 1, 1, 1] ls && px_fits [] st) (mo_back_95 n (px_gi ls 3) (px_gi ls 4) (px_gi ls 5) h)), (122, fun ls st h => px_if (px_fit [61, 0, 0, 1, 1, 1] ls && px_fits [] st) (mo_back_122 px_F (px_gi ls 3) (px_gi ls 4) (px_gi ls 5) h))]) (mo_back_orc_ok) pX_ok_RX11 mo_back_code_ok (px_k1 (px_ko (ts := [61, 0, 0, 1, 1, 1]) (ss := []) fun ls st h q e => ih _ _ _ _ _ e) (px_k1 (px_ko (ts := [61, 0, 0, 1, 1, 1]) (ss := []) fun ls st h q e => mo_back_122_ok _ _ _ _ _ _ e) px_k0)) 94 95 _ _ h q e
set_option maxRecDepth 200000 in
theorem mo_back_86_ok {d : Nat} : ∀ (x3 : Int32) (x4 : Int32) (h : pH) (q : Int32 × pH), mo_back_86 x3 x4 h = some q → px_G (d + 128 + 1) (pX_RX11, prog_13_method_87_code, 6, (some .int)) 86 [some (.inr (.inl 51)), none, none, some (.inl x3), some (.inl x4), none] [] h q := by
  intro x3 x4 h q e
  exact px_blk_ok (d := d + 128) (M := (pX_RX11, prog_13_method_87_code, 6, (some .int))) (C := mo_back_orc) (code := mo_back_code) (ld := [95]) (kl := [(95, fun ls st h => px_if (px_fit [61, 0, 0, 1, 1, 1] ls && px_fits [] st) (mo_back_95 px_F (px_gi ls 3) (px_gi ls 4) (px_gi ls 5) h))]) (mo_back_orc_ok) pX_ok_RX11 mo_back_code_ok (px_k1 (px_ko (ts := [61, 0, 0, 1, 1, 1]) (ss := []) fun ls st h q e => mo_back_95_ok _ _ _ _ _ _ e) px_k0) 94 86 _ _ h q e
set_option maxRecDepth 200000 in
theorem mo_back_150_ok {d : Nat} {r28 : Int32 → Int32 → Int32 → pH → pR} (hr28 : ∀ (x1 : Int32) (x2 : Int32) (x3 : Int32) (h : pH) (q : Int32 × pH), r28 x1 x2 x3 h = some q → px_G (d + 128 + 1) (pX_RX11, prog_13_method_87_code, 6, (some .int)) 28 [some (.inr (.inl 51)), some (.inl x1), some (.inl x2), some (.inl x3), none, none] [] h q) {r37 : Int32 → Int32 → Int32 → Int32 → pH → pR} (hr37 : ∀ (x1 : Int32) (x2 : Int32) (x3 : Int32) (x4 : Int32) (h : pH) (q : Int32 × pH), r37 x1 x2 x3 x4 h = some q → px_G (d + 128 + 1) (pX_RX11, prog_13_method_87_code, 6, (some .int)) 37 [some (.inr (.inl 51)), some (.inl x1), some (.inl x2), some (.inl x3), some (.inl x4), none] [] h q) : ∀ (x1 : Int32) (x2 : Int32) (x3 : Int32) (x4 : Int32) (h : pH) (q : Int32 × pH), mo_back_150 r28 r37 x1 x2 x3 x4 h = some q → px_G (d + 128 + 1) (pX_RX11, prog_13_method_87_code, 6, (some .int)) 150 [some (.inr (.inl 51)), some (.inl x1), some (.inl x2), some (.inl x3), some (.inl x4), none] [] h q := by
  intro x1 x2 x3 x4 h q e
  exact px_blk_ok (d := d + 128) (M := (pX_RX11, prog_13_method_87_code, 6, (some .int))) (C := mo_back_orc) (code := mo_back_code) (ld := [37]) (kl := [(37, fun ls st h => px_if (px_fit [61, 1, 1, 1, 1, 0] ls && px_fits [] st) (r37 (px_gi ls 1) (px_gi ls 2) (px_gi ls 3) (px_gi ls 4) h))]) (mo_back_orc_ok) pX_ok_RX11 mo_back_code_ok (px_k1 (px_ko (ts := [61, 1, 1, 1, 1, 0]) (ss := []) fun ls st h q e => hr37 _ _ _ _ _ _ e) px_k0) 94 150 _ _ h q e
set_option maxRecDepth 200000 in
theorem mo_back_37_ok {d : Nat} {r28 : Int32 → Int32 → Int32 → pH → pR} (hr28 : ∀ (x1 : Int32) (x2 : Int32) (x3 : Int32) (h : pH) (q : Int32 × pH), r28 x1 x2 x3 h = some q → px_G (d + 128 + 1) (pX_RX11, prog_13_method_87_code, 6, (some .int)) 28 [some (.inr (.inl 51)), some (.inl x1), some (.inl x2), some (.inl x3), none, none] [] h q) : ∀ (n : Nat) (x1 : Int32) (x2 : Int32) (x3 : Int32) (x4 : Int32) (h : pH) (q : Int32 × pH), mo_back_37 r28 n x1 x2 x3 x4 h = some q → px_G (d + 128 + 1) (pX_RX11, prog_13_method_87_code, 6, (some .int)) 37 [some (.inr (.inl 51)), some (.inl x1), some (.inl x2), some (.inl x3), some (.inl x4), none] [] h q := by
  intro n
  induction n with
  | zero =>
    intro x1 x2 x3 x4 h q e
    cases e
  | succ n ih =>
    intro x1 x2 x3 x4 h q e
    exact px_blk_ok (d := d + 128) (M := (pX_RX11, prog_13_method_87_code, 6, (some .int))) (C := mo_back_orc) (code := mo_back_code) (ld := [28, 150, 86]) (kl := [(28, fun ls st h => px_if (px_fit [61, 1, 1, 1, 0, 0] ls && px_fits [] st) (r28 (px_gi ls 1) (px_gi ls 2) (px_gi ls 3) h)), (150, fun ls st h => px_if (px_fit [61, 1, 1, 1, 1, 0] ls && px_fits [] st) (mo_back_150 r28 (mo_back_37 r28 n) (px_gi ls 1) (px_gi ls 2) (px_gi ls 3) (px_gi ls 4) h)), (86, fun ls st h => px_if (px_fit [61, 0, 0, 1, 1, 0] ls && px_fits [] st) (mo_back_86 (px_gi ls 3) (px_gi ls 4) h))]) (mo_back_orc_ok) pX_ok_RX11 mo_back_code_ok (px_k1 (px_ko (ts := [61, 1, 1, 1, 0, 0]) (ss := []) fun ls st h q e => hr28 _ _ _ _ _ e) (px_k1 (px_ko (ts := [61, 1, 1, 1, 1, 0]) (ss := []) fun ls st h q e => mo_back_150_ok hr28 ih _ _ _ _ _ _ e) (px_k1 (px_ko (ts := [61, 0, 0, 1, 1, 0]) (ss := []) fun ls st h q e => mo_back_86_ok _ _ _ _ e) px_k0))) 94 37 _ _ h q e
set_option maxRecDepth 200000 in
theorem mo_back_28_ok {d : Nat} : ∀ (n : Nat) (x1 : Int32) (x2 : Int32) (x3 : Int32) (h : pH) (q : Int32 × pH), mo_back_28 n x1 x2 x3 h = some q → px_G (d + 128 + 1) (pX_RX11, prog_13_method_87_code, 6, (some .int)) 28 [some (.inr (.inl 51)), some (.inl x1), some (.inl x2), some (.inl x3), none, none] [] h q := by
  intro n
  induction n with
  | zero =>
    intro x1 x2 x3 h q e
    cases e
  | succ n ih =>
    intro x1 x2 x3 h q e
    exact px_blk_ok (d := d + 128) (M := (pX_RX11, prog_13_method_87_code, 6, (some .int))) (C := mo_back_orc) (code := mo_back_code) (ld := [37]) (kl := [(37, fun ls st h => px_if (px_fit [61, 1, 1, 1, 1, 0] ls && px_fits [] st) (mo_back_37 (mo_back_28 n) px_F (px_gi ls 1) (px_gi ls 2) (px_gi ls 3) (px_gi ls 4) h))]) (mo_back_orc_ok) pX_ok_RX11 mo_back_code_ok (px_k1 (px_ko (ts := [61, 1, 1, 1, 1, 0]) (ss := []) fun ls st h q e => mo_back_37_ok ih _ _ _ _ _ _ _ e) px_k0) 94 28 _ _ h q e
set_option maxRecDepth 200000 in
theorem mo_back_ok {d : Nat} {x1 : Int32} {x2 : Int32} {h : pH} {q : Int32 × pH} (e : mo_back x1 x2 h = some q) : px_Con (d + 129) 259 [.inr (.inl 51), .inl x1, .inl x2] h q :=
  px_con (X := pX_RX11) (b := prog_13_method_87_code) (nL := 6) (rt := (some .int)) rfl rfl (Nat.le_of_ble_eq_true rfl) rfl (px_blk_ok (d := d + 128) (M := (pX_RX11, prog_13_method_87_code, 6, (some .int))) (C := mo_back_orc) (code := mo_back_code) (ld := [28, 24]) (kl := [(28, fun ls st h => px_if (px_fit [61, 1, 1, 1, 0, 0] ls && px_fits [] st) (mo_back_28 px_F (px_gi ls 1) (px_gi ls 2) (px_gi ls 3) h)), (24, fun ls st h => px_if (px_fit [0, 0, 0, 0, 0, 0] ls && px_fits [] st) (mo_back_24 h))]) (mo_back_orc_ok) pX_ok_RX11 mo_back_code_ok (px_k1 (px_ko (ts := [61, 1, 1, 1, 0, 0]) (ss := []) fun ls st h q e => mo_back_28_ok _ _ _ _ _ _ e) (px_k1 (px_ko (ts := [0, 0, 0, 0, 0, 0]) (ss := []) fun ls st h q e => mo_back_24_ok _ _ e) px_k0)) 94 0 _ _ _ q e)
/-! WordsUnsaidModel.exact(II)I -/
noncomputable def mo_exact_24 (h : pH) : pR :=
  some (px_c (-1), h)
noncomputable def mo_exact_128 (r48 : Int32 → Int32 → Int32 → Int32 → Int32 → Int32 → pH → pR) (x2 : Int32) (x3 : Int32) (x4 : Int32) (x5 : Int32) (x6 : Int32) (x7 : Int32) (h : pH) : pR :=
  r48 x2 x3 x4 x5 x6 (x7 + px_c 1) h
noncomputable def mo_exact_124 (r48 : Int32 → Int32 → Int32 → Int32 → Int32 → Int32 → pH → pR) (x2 : Int32) (x3 : Int32) (x4 : Int32) (x5 : Int32) (x7 : Int32) (h : pH) : pR :=
  mo_exact_128 r48 x2 x3 x4 x5 x7 x7 h
noncomputable def mo_exact_105 (r48 : Int32 → Int32 → Int32 → Int32 → Int32 → Int32 → pH → pR) (x2 : Int32) (x3 : Int32) (x4 : Int32) (x5 : Int32) (x6 : Int32) (x7 : Int32) (h : pH) : pR :=
  if x6 = (px_c (-1)) then
    mo_exact_124 r48 x2 x3 x4 x5 x7 h
  else
    px_bind (jn_bitCount x7 h) fun z1 h2 =>
    px_bind (jn_bitCount x6 h2) fun z3 h4 =>
    if z1 ≤ z3 then
      mo_exact_128 r48 x2 x3 x4 x5 x6 x7 h4
    else
      mo_exact_124 r48 x2 x3 x4 x5 x7 h4
noncomputable def mo_exact_101 (r48 : Int32 → Int32 → Int32 → Int32 → Int32 → Int32 → pH → pR) (x2 : Int32) (x3 : Int32) (x4 : Int32) (x6 : Int32) (x7 : Int32) (h : pH) : pR :=
  mo_exact_105 r48 x2 x3 x4 x7 x6 x7 h
noncomputable def mo_exact_48 : Nat → Int32 → Int32 → Int32 → Int32 → Int32 → Int32 → pH → pR
  | 0, _, _, _, _, _, _, _ => none
  | n + 1, x2, x3, x4, x5, x6, x7, h =>
    if x3 < x7 then
      let h1 := px_w h 51 13 (px_c 0)
      px_bind (mo_tell x5 h1) fun _ h3 =>
      px_bind (mo_tell x6 h3) fun _ h5 =>
      some (x4, h5)
    else
      if (x7 &&& (x3 ^^^ (px_c (-1)))) = 0 then
        px_bind (mo_leftIn 52 x7 h) fun z6 h7 =>
        if z6 = x2 then
          if x5 = (px_c (-1)) then
            mo_exact_101 (mo_exact_48 n) x2 x3 (x4 + px_c 1) x6 x7 h7
          else
            px_bind (jn_bitCount x7 h7) fun z8 h9 =>
            px_bind (jn_bitCount x5 h9) fun z10 h11 =>
            if z10 ≤ z8 then
              mo_exact_105 (mo_exact_48 n) x2 x3 (x4 + px_c 1) x5 x6 x7 h11
            else
              mo_exact_101 (mo_exact_48 n) x2 x3 (x4 + px_c 1) x6 x7 h11
        else
          mo_exact_128 (mo_exact_48 n) x2 x3 x4 x5 x6 x7 h7
      else
        mo_exact_128 (mo_exact_48 n) x2 x3 x4 x5 x6 x7 h
noncomputable def mo_exact (x1 : Int32) (x2 : Int32) (h : pH) : pR :=
  let h1 := px_w h 51 14 (px_c 0)
  px_bind (mo_isPerson x1 h1) fun z2 h3 =>
  if z2 = 0 then
    mo_exact_24 h3
  else
    px_bind (mo_in x2 (px_c 1) (px_c 400) h3) fun z4 h5 =>
    if z4 = 0 then
      mo_exact_24 h5
    else
      px_bind (mo_unsaid 52 x1 h5) fun z6 h7 =>
      mo_exact_48 px_F x2 z6 (px_c 0) (px_c (-1)) (px_c (-1)) (px_c 0) h7
def mo_exact_code : pCode := [(0, .aload_n 0, 1), (1, .iconst 0, 1), (2, .putfield 106, 3), (5, .aload_n 0, 1), (6, .iload_n 1, 1), (7, .invokevirtual 122, 3), (10, .ifCond .eq (14), 3), (13, .iload_n 2, 1), (14, .iconst 1, 1), (15, .sipush (400), 3), (18, .invokestatic 115, 3), (21, .ifCond .ne (5), 3), (24, .iconst (-1), 1), (25, .ireturn, 1), (26, .aload_n 0, 1), (27, .aload_n 0, 1), (28, .getfield 9, 3), (31, .iload_n 1, 1), (32, .invokevirtual 245, 3), (35, .istore_n 3, 1), (36, .iconst 0, 1), (37, .istore 4, 2), (39, .iconst (-1), 1), (40, .istore 5, 2), (42, .iconst (-1), 1), (43, .istore 6, 2), (45, .iconst 0, 1), (46, .istore 7, 2), (48, .iload 7, 2), (50, .iload_n 3, 1), (51, .if_icmp .gt (83), 3), (54, .iload 7, 2), (56, .iload_n 3, 1), (57, .iconst (-1), 1), (58, .ixor, 1), (59, .iand, 1), (60, .ifCond .ne (68), 3), (63, .aload_n 0, 1), (64, .getfield 9, 3), (67, .iload 7, 2), (69, .invokestatic 248, 3), (72, .iload_n 2, 1), (73, .if_icmp .eq (6), 3), (76, .goto (52), 3), (79, .iinc 4 (1), 3), (82, .iload 5, 2), (84, .iconst (-1), 1), (85, .if_icmp .eq (16), 3), (88, .iload 7, 2), (90, .invokestatic 222, 3), (93, .iload 5, 2), (95, .invokestatic 222, 3), (98, .if_icmp .ge (7), 3), (101, .iload 7, 2), (103, .istore 5, 2), (105, .iload 6, 2), (107, .iconst (-1), 1), (108, .if_icmp .eq (16), 3), (111, .iload 7, 2), (113, .invokestatic 222, 3), (116, .iload 6, 2), (118, .invokestatic 222, 3), (121, .if_icmp .le (7), 3), (124, .iload 7, 2), (126, .istore 6, 2), (128, .iinc 7 (1), 3), (131, .goto (-83), 3), (134, .aload_n 0, 1), (135, .iconst 0, 1), (136, .putfield 109, 3), (139, .aload_n 0, 1), (140, .iload 5, 2), (142, .invokevirtual 312, 3), (145, .aload_n 0, 1), (146, .iload 6, 2), (148, .invokevirtual 312, 3), (151, .iload 4, 2), (153, .ireturn, 1)]
set_option maxRecDepth 200000 in
theorem mo_exact_code_ok : px_code prog_13_method_88_code mo_exact_code = true := by decide +kernel
noncomputable def mo_exact_orc : pC := px_orc [(279, fun a h => match a with
    | [.inl v0] => jn_bitCount v0 h
    | _ => none), (178, fun a h => match a with
    | [.inr (.inl 51), .inl v1] => mo_tell v1 h
    | _ => none), (211, fun a h => match a with
    | [.inr (.inl v0), .inl v1] => mo_leftIn v0 v1 h
    | _ => none), (179, fun a h => match a with
    | [.inr (.inl 51), .inl v1] => mo_isPerson v1 h
    | _ => none), (175, fun a h => match a with
    | [.inl v0, .inl v1, .inl v2] => mo_in v0 v1 v2 h
    | _ => none), (212, fun a h => match a with
    | [.inr (.inl 51), .inr (.inl v1), .inl v2] => mo_unsaid v1 v2 h
    | _ => none)]
theorem mo_exact_orc_ok {d : Nat} : px_Or (d + 2) (mo_exact_orc) := px_orc_ok (by
  refine px_o1 (fun a h q e => by
    dsimp only at e
    split at e
    · exact jn_bitCount_ok (d := d + 1) e
    · cases e) ?_
  refine px_o1 (fun a h q e => by
    dsimp only at e
    split at e
    · exact mo_tell_ok (d := d + 1) e
    · cases e) ?_
  refine px_o1 (fun a h q e => by
    dsimp only at e
    split at e
    · exact mo_leftIn_ok (d := d + 0) e
    · cases e) ?_
  refine px_o1 (fun a h q e => by
    dsimp only at e
    split at e
    · exact mo_isPerson_ok (d := d + 0) e
    · cases e) ?_
  refine px_o1 (fun a h q e => by
    dsimp only at e
    split at e
    · exact mo_in_ok (d := d + 1) e
    · cases e) ?_
  refine px_o1 (fun a h q e => by
    dsimp only at e
    split at e
    · exact mo_unsaid_ok (d := d + 0) e
    · cases e) ?_
  exact px_o0)
set_option maxRecDepth 200000 in
theorem mo_exact_24_ok {d : Nat} : ∀ (h : pH) (q : Int32 × pH), mo_exact_24 h = some q → px_G (d + 2 + 1) (pX_RX11, prog_13_method_88_code, 8, (some .int)) 24 [none, none, none, none, none, none, none, none] [] h q := by
  intro h q e
  exact px_blk_ok (d := d + 2) (M := (pX_RX11, prog_13_method_88_code, 8, (some .int))) (C := mo_exact_orc) (code := mo_exact_code) (ld := []) (kl := []) (mo_exact_orc_ok) pX_ok_RX11 mo_exact_code_ok (px_k0) 83 24 _ _ h q e
set_option maxRecDepth 200000 in
theorem mo_exact_128_ok {d : Nat} {r48 : Int32 → Int32 → Int32 → Int32 → Int32 → Int32 → pH → pR} (hr48 : ∀ (x2 : Int32) (x3 : Int32) (x4 : Int32) (x5 : Int32) (x6 : Int32) (x7 : Int32) (h : pH) (q : Int32 × pH), r48 x2 x3 x4 x5 x6 x7 h = some q → px_G (d + 2 + 1) (pX_RX11, prog_13_method_88_code, 8, (some .int)) 48 [some (.inr (.inl 51)), none, some (.inl x2), some (.inl x3), some (.inl x4), some (.inl x5), some (.inl x6), some (.inl x7)] [] h q) : ∀ (x2 : Int32) (x3 : Int32) (x4 : Int32) (x5 : Int32) (x6 : Int32) (x7 : Int32) (h : pH) (q : Int32 × pH), mo_exact_128 r48 x2 x3 x4 x5 x6 x7 h = some q → px_G (d + 2 + 1) (pX_RX11, prog_13_method_88_code, 8, (some .int)) 128 [some (.inr (.inl 51)), none, some (.inl x2), some (.inl x3), some (.inl x4), some (.inl x5), some (.inl x6), some (.inl x7)] [] h q := by
  intro x2 x3 x4 x5 x6 x7 h q e
  exact px_blk_ok (d := d + 2) (M := (pX_RX11, prog_13_method_88_code, 8, (some .int))) (C := mo_exact_orc) (code := mo_exact_code) (ld := [48]) (kl := [(48, fun ls st h => px_if (px_fit [61, 0, 1, 1, 1, 1, 1, 1] ls && px_fits [] st) (r48 (px_gi ls 2) (px_gi ls 3) (px_gi ls 4) (px_gi ls 5) (px_gi ls 6) (px_gi ls 7) h))]) (mo_exact_orc_ok) pX_ok_RX11 mo_exact_code_ok (px_k1 (px_ko (ts := [61, 0, 1, 1, 1, 1, 1, 1]) (ss := []) fun ls st h q e => hr48 _ _ _ _ _ _ _ _ e) px_k0) 83 128 _ _ h q e
set_option maxRecDepth 200000 in
theorem mo_exact_124_ok {d : Nat} {r48 : Int32 → Int32 → Int32 → Int32 → Int32 → Int32 → pH → pR} (hr48 : ∀ (x2 : Int32) (x3 : Int32) (x4 : Int32) (x5 : Int32) (x6 : Int32) (x7 : Int32) (h : pH) (q : Int32 × pH), r48 x2 x3 x4 x5 x6 x7 h = some q → px_G (d + 2 + 1) (pX_RX11, prog_13_method_88_code, 8, (some .int)) 48 [some (.inr (.inl 51)), none, some (.inl x2), some (.inl x3), some (.inl x4), some (.inl x5), some (.inl x6), some (.inl x7)] [] h q) : ∀ (x2 : Int32) (x3 : Int32) (x4 : Int32) (x5 : Int32) (x7 : Int32) (h : pH) (q : Int32 × pH), mo_exact_124 r48 x2 x3 x4 x5 x7 h = some q → px_G (d + 2 + 1) (pX_RX11, prog_13_method_88_code, 8, (some .int)) 124 [some (.inr (.inl 51)), none, some (.inl x2), some (.inl x3), some (.inl x4), some (.inl x5), none, some (.inl x7)] [] h q := by
  intro x2 x3 x4 x5 x7 h q e
  exact px_blk_ok (d := d + 2) (M := (pX_RX11, prog_13_method_88_code, 8, (some .int))) (C := mo_exact_orc) (code := mo_exact_code) (ld := [128]) (kl := [(128, fun ls st h => px_if (px_fit [61, 0, 1, 1, 1, 1, 1, 1] ls && px_fits [] st) (mo_exact_128 r48 (px_gi ls 2) (px_gi ls 3) (px_gi ls 4) (px_gi ls 5) (px_gi ls 6) (px_gi ls 7) h))]) (mo_exact_orc_ok) pX_ok_RX11 mo_exact_code_ok (px_k1 (px_ko (ts := [61, 0, 1, 1, 1, 1, 1, 1]) (ss := []) fun ls st h q e => mo_exact_128_ok hr48 _ _ _ _ _ _ _ _ e) px_k0) 83 124 _ _ h q e
set_option maxRecDepth 200000 in
theorem mo_exact_105_ok {d : Nat} {r48 : Int32 → Int32 → Int32 → Int32 → Int32 → Int32 → pH → pR} (hr48 : ∀ (x2 : Int32) (x3 : Int32) (x4 : Int32) (x5 : Int32) (x6 : Int32) (x7 : Int32) (h : pH) (q : Int32 × pH), r48 x2 x3 x4 x5 x6 x7 h = some q → px_G (d + 2 + 1) (pX_RX11, prog_13_method_88_code, 8, (some .int)) 48 [some (.inr (.inl 51)), none, some (.inl x2), some (.inl x3), some (.inl x4), some (.inl x5), some (.inl x6), some (.inl x7)] [] h q) : ∀ (x2 : Int32) (x3 : Int32) (x4 : Int32) (x5 : Int32) (x6 : Int32) (x7 : Int32) (h : pH) (q : Int32 × pH), mo_exact_105 r48 x2 x3 x4 x5 x6 x7 h = some q → px_G (d + 2 + 1) (pX_RX11, prog_13_method_88_code, 8, (some .int)) 105 [some (.inr (.inl 51)), none, some (.inl x2), some (.inl x3), some (.inl x4), some (.inl x5), some (.inl x6), some (.inl x7)] [] h q := by
  intro x2 x3 x4 x5 x6 x7 h q e
  exact px_blk_ok (d := d + 2) (M := (pX_RX11, prog_13_method_88_code, 8, (some .int))) (C := mo_exact_orc) (code := mo_exact_code) (ld := [124, 128]) (kl := [(124, fun ls st h => px_if (px_fit [61, 0, 1, 1, 1, 1, 0, 1] ls && px_fits [] st) (mo_exact_124 r48 (px_gi ls 2) (px_gi ls 3) (px_gi ls 4) (px_gi ls 5) (px_gi ls 7) h)), (128, fun ls st h => px_if (px_fit [61, 0, 1, 1, 1, 1, 1, 1] ls && px_fits [] st) (mo_exact_128 r48 (px_gi ls 2) (px_gi ls 3) (px_gi ls 4) (px_gi ls 5) (px_gi ls 6) (px_gi ls 7) h))]) (mo_exact_orc_ok) pX_ok_RX11 mo_exact_code_ok (px_k1 (px_ko (ts := [61, 0, 1, 1, 1, 1, 0, 1]) (ss := []) fun ls st h q e => mo_exact_124_ok hr48 _ _ _ _ _ _ _ e) (px_k1 (px_ko (ts := [61, 0, 1, 1, 1, 1, 1, 1]) (ss := []) fun ls st h q e => mo_exact_128_ok hr48 _ _ _ _ _ _ _ _ e) px_k0)) 83 105 _ _ h q e
set_option maxRecDepth 200000 in
theorem mo_exact_101_ok {d : Nat} {r48 : Int32 → Int32 → Int32 → Int32 → Int32 → Int32 → pH → pR} (hr48 : ∀ (x2 : Int32) (x3 : Int32) (x4 : Int32) (x5 : Int32) (x6 : Int32) (x7 : Int32) (h : pH) (q : Int32 × pH), r48 x2 x3 x4 x5 x6 x7 h = some q → px_G (d + 2 + 1) (pX_RX11, prog_13_method_88_code, 8, (some .int)) 48 [some (.inr (.inl 51)), none, some (.inl x2), some (.inl x3), some (.inl x4), some (.inl x5), some (.inl x6), some (.inl x7)] [] h q) : ∀ (x2 : Int32) (x3 : Int32) (x4 : Int32) (x6 : Int32) (x7 : Int32) (h : pH) (q : Int32 × pH), mo_exact_101 r48 x2 x3 x4 x6 x7 h = some q → px_G (d + 2 + 1) (pX_RX11, prog_13_method_88_code, 8, (some .int)) 101 [some (.inr (.inl 51)), none, some (.inl x2), some (.inl x3), some (.inl x4), none, some (.inl x6), some (.inl x7)] [] h q := by
  intro x2 x3 x4 x6 x7 h q e
  exact px_blk_ok (d := d + 2) (M := (pX_RX11, prog_13_method_88_code, 8, (some .int))) (C := mo_exact_orc) (code := mo_exact_code) (ld := [105]) (kl := [(105, fun ls st h => px_if (px_fit [61, 0, 1, 1, 1, 1, 1, 1] ls && px_fits [] st) (mo_exact_105 r48 (px_gi ls 2) (px_gi ls 3) (px_gi ls 4) (px_gi ls 5) (px_gi ls 6) (px_gi ls 7) h))]) (mo_exact_orc_ok) pX_ok_RX11 mo_exact_code_ok (px_k1 (px_ko (ts := [61, 0, 1, 1, 1, 1, 1, 1]) (ss := []) fun ls st h q e => mo_exact_105_ok hr48 _ _ _ _ _ _ _ _ e) px_k0) 83 101 _ _ h q e
set_option maxRecDepth 200000 in
theorem mo_exact_48_ok {d : Nat} : ∀ (n : Nat) (x2 : Int32) (x3 : Int32) (x4 : Int32) (x5 : Int32) (x6 : Int32) (x7 : Int32) (h : pH) (q : Int32 × pH), mo_exact_48 n x2 x3 x4 x5 x6 x7 h = some q → px_G (d + 2 + 1) (pX_RX11, prog_13_method_88_code, 8, (some .int)) 48 [some (.inr (.inl 51)), none, some (.inl x2), some (.inl x3), some (.inl x4), some (.inl x5), some (.inl x6), some (.inl x7)] [] h q := by
  intro n
  induction n with
  | zero =>
    intro x2 x3 x4 x5 x6 x7 h q e
    cases e
  | succ n ih =>
    intro x2 x3 x4 x5 x6 x7 h q e
    exact px_blk_ok (d := d + 2) (M := (pX_RX11, prog_13_method_88_code, 8, (some .int))) (C := mo_exact_orc) (code := mo_exact_code) (ld := [101, 105, 128]) (kl := [(101, fun ls st h => px_if (px_fit [61, 0, 1, 1, 1, 0, 1, 1] ls && px_fits [] st) (mo_exact_101 (mo_exact_48 n) (px_gi ls 2) (px_gi ls 3) (px_gi ls 4) (px_gi ls 6) (px_gi ls 7) h)), (105, fun ls st h => px_if (px_fit [61, 0, 1, 1, 1, 1, 1, 1] ls && px_fits [] st) (mo_exact_105 (mo_exact_48 n) (px_gi ls 2) (px_gi ls 3) (px_gi ls 4) (px_gi ls 5) (px_gi ls 6) (px_gi ls 7) h)), (128, fun ls st h => px_if (px_fit [61, 0, 1, 1, 1, 1, 1, 1] ls && px_fits [] st) (mo_exact_128 (mo_exact_48 n) (px_gi ls 2) (px_gi ls 3) (px_gi ls 4) (px_gi ls 5) (px_gi ls 6) (px_gi ls 7) h))]) (mo_exact_orc_ok) pX_ok_RX11 mo_exact_code_ok (px_k1 (px_ko (ts := [61, 0, 1, 1, 1, 0, 1, 1]) (ss := []) fun ls st h q e => mo_exact_101_ok ih _ _ _ _ _ _ _ e) (px_k1 (px_ko (ts := [61, 0, 1, 1, 1, 1, 1, 1]) (ss := []) fun ls st h q e => mo_exact_105_ok ih _ _ _ _ _ _ _ _ e) (px_k1 (px_ko (ts := [61, 0, 1, 1, 1, 1, 1, 1]) (ss := []) fun ls st h q e => mo_exact_128_ok ih _ _ _ _ _ _ _ _ e) px_k0))) 83 48 _ _ h q e
set_option maxRecDepth 200000 in
theorem mo_exact_ok {d : Nat} {x1 : Int32} {x2 : Int32} {h : pH} {q : Int32 × pH} (e : mo_exact x1 x2 h = some q) : px_Con (d + 3) 260 [.inr (.inl 51), .inl x1, .inl x2] h q :=
  px_con (X := pX_RX11) (b := prog_13_method_88_code) (nL := 8) (rt := (some .int)) rfl rfl (Nat.le_of_ble_eq_true rfl) rfl (px_blk_ok (d := d + 2) (M := (pX_RX11, prog_13_method_88_code, 8, (some .int))) (C := mo_exact_orc) (code := mo_exact_code) (ld := [48, 24]) (kl := [(48, fun ls st h => px_if (px_fit [61, 0, 1, 1, 1, 1, 1, 1] ls && px_fits [] st) (mo_exact_48 px_F (px_gi ls 2) (px_gi ls 3) (px_gi ls 4) (px_gi ls 5) (px_gi ls 6) (px_gi ls 7) h)), (24, fun ls st h => px_if (px_fit [0, 0, 0, 0, 0, 0, 0, 0] ls && px_fits [] st) (mo_exact_24 h))]) (mo_exact_orc_ok) pX_ok_RX11 mo_exact_code_ok (px_k1 (px_ko (ts := [61, 0, 1, 1, 1, 1, 1, 1]) (ss := []) fun ls st h q e => mo_exact_48_ok _ _ _ _ _ _ _ _ _ e) (px_k1 (px_ko (ts := [0, 0, 0, 0, 0, 0, 0, 0]) (ss := []) fun ls st h q e => mo_exact_24_ok _ _ e) px_k0)) 83 0 _ _ _ q e)
/-! WordsUnsaidModel.chance(II)I -/
noncomputable def mo_chance_229 (x6 : Int32) (x8 : Int32) (h : pH) : pR :=
  px_bind (mo_tell x8 h) fun _ h2 =>
  some (x6, h2)
noncomputable def mo_chance_196 (r89 : Int32 → Int32 → Int32 → Int32 → Int32 → Int32 → Int32 → Int32 → Int32 → pH → pR) (x1 : Int32) (x3 : Int32) (x5 : Int32) (x6 : Int32) (x7 : Int32) (x8 : Int32) (x9 : Int32) (x10 : Int32) (x11 : Int32) (h : pH) : pR :=
  px_if (px_ok 0 65 x9) <|
  px_if (px_ok 0 68 ((px_c 12) + (h 65 x9.toNatClampNeg))) <|
  px_if (px_ok 0 68 ((px_c 12) + (h 65 x9.toNatClampNeg))) <|
  let h1 := px_w h 68 ((px_c 12) + (h 65 x9.toNatClampNeg)).toNatClampNeg ((h 68 ((px_c 12) + (h 65 x9.toNatClampNeg)).toNatClampNeg) - (px_c 1))
  r89 x1 x3 x5 x6 x7 x8 x9 (x10 + px_c 1) (x11 + px_c 1) h1
noncomputable def mo_chance_171 (r89 : Int32 → Int32 → Int32 → Int32 → Int32 → Int32 → Int32 → Int32 → Int32 → pH → pR) (x1 : Int32) (x3 : Int32) (x5 : Int32) (x6 : Int32) (x7 : Int32) (x8 : Int32) (x9 : Int32) (x10 : Int32) (x11 : Int32) (x14 : Int32) (h : pH) : pR :=
  if (px_c 10) = 0 then none else
  let y6_1 := (x6 * x14) / (px_c 10)
  if x7 ≤ x14 then
    mo_chance_196 r89 x1 x3 x5 y6_1 x7 x8 x9 x10 x11 h
  else
    mo_chance_196 r89 x1 x3 x5 y6_1 x14 x11 x9 x10 x11 h
noncomputable def mo_chance_156 (r89 : Int32 → Int32 → Int32 → Int32 → Int32 → Int32 → Int32 → Int32 → Int32 → pH → pR) (x1 : Int32) (x3 : Int32) (x5 : Int32) (x6 : Int32) (x7 : Int32) (x8 : Int32) (x9 : Int32) (x10 : Int32) (x11 : Int32) (x12 : Int64) (h : pH) : pR :=
  let y14_1 := (px_maxL (Int64.ofNat 0) (px_minL 10 x12)).toInt32
  mo_chance_171 r89 x1 x3 x5 x6 x7 x8 x9 x10 x11 y14_1 h
noncomputable def mo_chance_96 (r89 : Int32 → Int32 → Int32 → Int32 → Int32 → Int32 → Int32 → Int32 → Int32 → pH → pR) : Nat → Int32 → Int32 → Int32 → Int32 → Int32 → Int32 → Int32 → Int32 → Int32 → pH → pR
  | 0, _, _, _, _, _, _, _, _, _, _ => none
  | n + 1, x1, x3, x5, x6, x7, x8, x9, x10, x11, h =>
    px_if (px_ok 0 65 x9) <|
    px_if (px_ok 0 68 ((px_c 12) + (h 65 x9.toNatClampNeg))) <|
    if (h 68 ((px_c 12) + (h 65 x9.toNatClampNeg)).toNatClampNeg) = 0 then
      mo_chance_96 r89 n x1 x3 x5 x6 x7 x8 (x9 + px_c 1) (px_c 0) x11 h
    else
      px_if (px_ok 0 54 x1) <|
      px_if (px_ok 0 65 x9) <|
      px_bind (mo_pressureOf 68 (h 65 x9.toNatClampNeg) x10 x11 x3 h) fun z1 h2 =>
      let y12_3 := (((h 54 x1.toNatClampNeg).toInt64) - z1.toInt64) + (Int64.ofNat 1)
      mo_chance_156 r89 x1 x3 x5 x6 x7 x8 x9 x10 x11 y12_3 h2
noncomputable def mo_chance_89 : Nat → Int32 → Int32 → Int32 → Int32 → Int32 → Int32 → Int32 → Int32 → Int32 → pH → pR
  | 0, _, _, _, _, _, _, _, _, _, _ => none
  | n + 1, x1, x3, x5, x6, x7, x8, x9, x10, x11, h =>
    if x5 ≤ x11 then
      let h1 := px_w h 51 13 (px_c 0)
      mo_chance_229 x6 x8 h1
    else
      mo_chance_96 (mo_chance_89 n) px_F x1 x3 x5 x6 x7 x8 x9 x10 x11 h
noncomputable def mo_chance_29 (x1 : Int32) (x2 : Int32) (x3 : Int32) (s0 : Int32) (s1 : Int32) (h : pH) : pR :=
  px_bind (mo_readLine0 s1 s0 x2 h) fun z1 h2 =>
  if 0 ≤ z1 then
    px_bind (mo_lay 52 68 (px_c 0) h2) fun _ h4 =>
    px_if (px_ok 0 52 x1) <|
    px_bind (mo_distance (h4 52 x1.toNatClampNeg) x2 h4) fun z5 h6 =>
    mo_chance_89 px_F x1 x3 z5 (px_c 10000) (px_c 10) (px_c (-1)) (px_c 0) (px_c 0) (px_c 0) h6
  else
    some (z1, h2)
noncomputable def mo_chance (x1 : Int32) (x2 : Int32) (h : pH) : pR :=
  let h1 := px_w h 51 14 (px_c 0)
  px_bind (mo_aboardOf x1 (px_c (-1)) x2 h1) fun z2 h3 =>
  if z2 = 0 then
    mo_chance_29 x1 x2 z2 (px_c 0) z2 h3
  else
    px_if (px_ok 0 52 x1) <|
    mo_chance_29 x1 x2 z2 (h3 52 x1.toNatClampNeg) z2 h3
def mo_chance_code : pCode := [(0, .aload_n 0, 1), (1, .iconst 0, 1), (2, .putfield 106, 3), (5, .aload_n 0, 1), (6, .iload_n 1, 1), (7, .iconst (-1), 1), (8, .iload_n 2, 1), (9, .invokevirtual 315, 3), (12, .istore_n 3, 1), (13, .aload_n 0, 1), (14, .iload_n 3, 1), (15, .iload_n 3, 1), (16, .ifCond .ne (7), 3), (19, .iconst 0, 1), (20, .goto (9), 3), (23, .aload_n 0, 1), (24, .getfield 9, 3), (27, .iload_n 1, 1), (28, .iaload, 1), (29, .iload_n 2, 1), (30, .invokevirtual 319, 3), (33, .istore 4, 2), (35, .iload 4, 2), (37, .ifCond .ge (6), 3), (40, .iload 4, 2), (42, .ireturn, 1), (43, .aload_n 0, 1), (44, .getfield 9, 3), (47, .aload_n 0, 1), (48, .getfield 63, 3), (51, .iconst 0, 1), (52, .invokestatic 295, 3), (55, .aload_n 0, 1), (56, .aload_n 0, 1), (57, .getfield 9, 3), (60, .iload_n 1, 1), (61, .iaload, 1), (62, .iload_n 2, 1), (63, .invokevirtual 268, 3), (66, .istore 5, 2), (68, .sipush (10000), 3), (71, .istore 6, 2), (73, .bipush (10), 2), (75, .istore 7, 2), (77, .iconst (-1), 1), (78, .istore 8, 2), (80, .iconst 0, 1), (81, .istore 9, 2), (83, .iconst 0, 1), (84, .istore 10, 2), (86, .iconst 0, 1), (87, .istore 11, 2), (89, .iload 11, 2), (91, .iload 5, 2), (93, .if_icmp .ge (131), 3), (96, .aload_n 0, 1), (97, .getfield 63, 3), (100, .bipush (12), 2), (102, .aload_n 0, 1), (103, .getfield 54, 3), (106, .iload 9, 2), (108, .iaload, 1), (109, .iadd, 1), (110, .iaload, 1), (111, .ifCond .ne (12), 3), (114, .iinc 9 (1), 3), (117, .iconst 0, 1), (118, .istore 10, 2), (120, .goto (-24), 3), (123, .aload_n 0, 1), (124, .getfield 20, 3), (127, .iload_n 1, 1), (128, .iaload, 1), (129, .i2l, 1), (130, .aload_n 0, 1), (131, .aload_n 0, 1), (132, .getfield 63, 3), (135, .aload_n 0, 1), (136, .getfield 54, 3), (139, .iload 9, 2), (141, .iaload, 1), (142, .iload 10, 2), (144, .iload 11, 2), (146, .iload_n 3, 1), (147, .invokevirtual 277, 3), (150, .i2l, 1), (151, .lsub, 1), (152, .lconst 1, 1), (153, .ladd, 1), (154, .lstore 12, 2), (156, .lconst 0, 1), (157, .ldc2_w 429, 3), (160, .lload 12, 2), (162, .invokestatic 431, 3), (165, .invokestatic 434, 3), (168, .l2i, 1), (169, .istore 14, 2), (171, .iload 6, 2), (173, .iload 14, 2), (175, .imul, 1), (176, .bipush (10), 2), (178, .idiv, 1), (179, .istore 6, 2), (181, .iload 14, 2), (183, .iload 7, 2), (185, .if_icmp .ge (11), 3), (188, .iload 14, 2), (190, .istore 7, 2), (192, .iload 11, 2), (194, .istore 8, 2), (196, .aload_n 0, 1), (197, .getfield 63, 3), (200, .bipush (12), 2), (202, .aload_n 0, 1), (203, .getfield 54, 3), (206, .iload 9, 2), (208, .iaload, 1), (209, .iadd, 1), (210, .dup2, 1), (211, .iaload, 1), (212, .iconst 1, 1), (213, .isub, 1), (214, .iastore, 1), (215, .iinc 10 (1), 3), (218, .iinc 11 (1), 3), (221, .goto (-132), 3), (224, .aload_n 0, 1), (225, .iconst 0, 1), (226, .putfield 109, 3), (229, .aload_n 0, 1), (230, .iload 8, 2), (232, .invokevirtual 312, 3), (235, .iload 6, 2), (237, .ireturn, 1)]
set_option maxRecDepth 200000 in
theorem mo_chance_code_ok : px_code prog_13_method_89_code mo_chance_code = true := by decide +kernel
noncomputable def mo_chance_orc : pC := px_orc [(178, fun a h => match a with
    | [.inr (.inl 51), .inl v1] => mo_tell v1 h
    | _ => none), (206, fun a h => match a with
    | [.inr (.inl 51), .inr (.inl v1), .inl v2, .inl v3, .inl v4, .inl v5] => mo_pressureOf v1 v2 v3 v4 v5 h
    | _ => none), (227, fun a h => match a with
    | [.inr (.inl 51), .inl v1, .inl v2, .inl v3] => mo_readLine0 v1 v2 v3 h
    | _ => none), (223, fun a h => match a with
    | [.inr (.inl v0), .inr (.inl v1), .inl v2] => mo_lay v0 v1 v2 h
    | _ => none), (218, fun a h => match a with
    | [.inr (.inl 51), .inl v1, .inl v2] => mo_distance v1 v2 h
    | _ => none), (225, fun a h => match a with
    | [.inr (.inl 51), .inl v1, .inl v2, .inl v3] => mo_aboardOf v1 v2 v3 h
    | _ => none)]
theorem mo_chance_orc_ok {d : Nat} : px_Or (d + 105) (mo_chance_orc) := px_orc_ok (by
  refine px_o1 (fun a h q e => by
    dsimp only at e
    split at e
    · exact mo_tell_ok (d := d + 104) e
    · cases e) ?_
  refine px_o1 (fun a h q e => by
    dsimp only at e
    split at e
    · exact mo_pressureOf_ok (d := d + 0) e
    · cases e) ?_
  refine px_o1 (fun a h q e => by
    dsimp only at e
    split at e
    · exact mo_readLine0_ok (d := d + 101) e
    · cases e) ?_
  refine px_o1 (fun a h q e => by
    dsimp only at e
    split at e
    · exact mo_lay_ok (d := d + 104) e
    · cases e) ?_
  refine px_o1 (fun a h q e => by
    dsimp only at e
    split at e
    · exact mo_distance_ok (d := d + 103) e
    · cases e) ?_
  refine px_o1 (fun a h q e => by
    dsimp only at e
    split at e
    · exact mo_aboardOf_ok (d := d + 101) e
    · cases e) ?_
  exact px_o0)
set_option maxRecDepth 200000 in
theorem mo_chance_229_ok {d : Nat} : ∀ (x6 : Int32) (x8 : Int32) (h : pH) (q : Int32 × pH), mo_chance_229 x6 x8 h = some q → px_G (d + 105 + 1) (pX_RX11, prog_13_method_89_code, 15, (some .int)) 229 [some (.inr (.inl 51)), none, none, none, none, none, some (.inl x6), none, some (.inl x8), none, none, none, none, none, none] [] h q := by
  intro x6 x8 h q e
  exact px_blk_ok (d := d + 105) (M := (pX_RX11, prog_13_method_89_code, 15, (some .int))) (C := mo_chance_orc) (code := mo_chance_code) (ld := []) (kl := []) (mo_chance_orc_ok) pX_ok_RX11 mo_chance_code_ok (px_k0) 139 229 _ _ h q e
set_option maxRecDepth 200000 in
theorem mo_chance_196_ok {d : Nat} {r89 : Int32 → Int32 → Int32 → Int32 → Int32 → Int32 → Int32 → Int32 → Int32 → pH → pR} (hr89 : ∀ (x1 : Int32) (x3 : Int32) (x5 : Int32) (x6 : Int32) (x7 : Int32) (x8 : Int32) (x9 : Int32) (x10 : Int32) (x11 : Int32) (h : pH) (q : Int32 × pH), r89 x1 x3 x5 x6 x7 x8 x9 x10 x11 h = some q → px_G (d + 105 + 1) (pX_RX11, prog_13_method_89_code, 15, (some .int)) 89 [some (.inr (.inl 51)), some (.inl x1), none, some (.inl x3), none, some (.inl x5), some (.inl x6), some (.inl x7), some (.inl x8), some (.inl x9), some (.inl x10), some (.inl x11), none, none, none] [] h q) : ∀ (x1 : Int32) (x3 : Int32) (x5 : Int32) (x6 : Int32) (x7 : Int32) (x8 : Int32) (x9 : Int32) (x10 : Int32) (x11 : Int32) (h : pH) (q : Int32 × pH), mo_chance_196 r89 x1 x3 x5 x6 x7 x8 x9 x10 x11 h = some q → px_G (d + 105 + 1) (pX_RX11, prog_13_method_89_code, 15, (some .int)) 196 [some (.inr (.inl 51)), some (.inl x1), none, some (.inl x3), none, some (.inl x5), some (.inl x6), some (.inl x7), some (.inl x8), some (.inl x9), some (.inl x10), some (.inl x11), none, none, none] [] h q := by
  intro x1 x3 x5 x6 x7 x8 x9 x10 x11 h q e
  exact px_blk_ok (d := d + 105) (M := (pX_RX11, prog_13_method_89_code, 15, (some .int))) (C := mo_chance_orc) (code := mo_chance_code) (ld := [89]) (kl := [(89, fun ls st h => px_if (px_fit [61, 1, 0, 1, 0, 1, 1, 1, 1, 1, 1, 1, 0, 0, 0] ls && px_fits [] st) (r89 (px_gi ls 1) (px_gi ls 3) (px_gi ls 5) (px_gi ls 6) (px_gi ls 7) (px_gi ls 8) (px_gi ls 9) (px_gi ls 10) (px_gi ls 11) h))]) (mo_chance_orc_ok) pX_ok_RX11 mo_chance_code_ok (px_k1 (px_ko (ts := [61, 1, 0, 1, 0, 1, 1, 1, 1, 1, 1, 1, 0, 0, 0]) (ss := []) fun ls st h q e => hr89 _ _ _ _ _ _ _ _ _ _ _ e) px_k0) 139 196 _ _ h q e
set_option maxRecDepth 200000 in
theorem mo_chance_171_ok {d : Nat} {r89 : Int32 → Int32 → Int32 → Int32 → Int32 → Int32 → Int32 → Int32 → Int32 → pH → pR} (hr89 : ∀ (x1 : Int32) (x3 : Int32) (x5 : Int32) (x6 : Int32) (x7 : Int32) (x8 : Int32) (x9 : Int32) (x10 : Int32) (x11 : Int32) (h : pH) (q : Int32 × pH), r89 x1 x3 x5 x6 x7 x8 x9 x10 x11 h = some q → px_G (d + 105 + 1) (pX_RX11, prog_13_method_89_code, 15, (some .int)) 89 [some (.inr (.inl 51)), some (.inl x1), none, some (.inl x3), none, some (.inl x5), some (.inl x6), some (.inl x7), some (.inl x8), some (.inl x9), some (.inl x10), some (.inl x11), none, none, none] [] h q) : ∀ (x1 : Int32) (x3 : Int32) (x5 : Int32) (x6 : Int32) (x7 : Int32) (x8 : Int32) (x9 : Int32) (x10 : Int32) (x11 : Int32) (x14 : Int32) (h : pH) (q : Int32 × pH), mo_chance_171 r89 x1 x3 x5 x6 x7 x8 x9 x10 x11 x14 h = some q → px_G (d + 105 + 1) (pX_RX11, prog_13_method_89_code, 15, (some .int)) 171 [some (.inr (.inl 51)), some (.inl x1), none, some (.inl x3), none, some (.inl x5), some (.inl x6), some (.inl x7), some (.inl x8), some (.inl x9), some (.inl x10), some (.inl x11), none, none, some (.inl x14)] [] h q := by
  intro x1 x3 x5 x6 x7 x8 x9 x10 x11 x14 h q e
  exact px_blk_ok (d := d + 105) (M := (pX_RX11, prog_13_method_89_code, 15, (some .int))) (C := mo_chance_orc) (code := mo_chance_code) (ld := [196]) (kl := [(196, fun ls st h => px_if (px_fit [61, 1, 0, 1, 0, 1, 1, 1, 1, 1, 1, 1, 0, 0, 0] ls && px_fits [] st) (mo_chance_196 r89 (px_gi ls 1) (px_gi ls 3) (px_gi ls 5) (px_gi ls 6) (px_gi ls 7) (px_gi ls 8) (px_gi ls 9) (px_gi ls 10) (px_gi ls 11) h))]) (mo_chance_orc_ok) pX_ok_RX11 mo_chance_code_ok (px_k1 (px_ko (ts := [61, 1, 0, 1, 0, 1, 1, 1, 1, 1, 1, 1, 0, 0, 0]) (ss := []) fun ls st h q e => mo_chance_196_ok hr89 _ _ _ _ _ _ _ _ _ _ _ e) px_k0) 139 171 _ _ h q e
set_option maxRecDepth 200000 in
theorem mo_chance_156_ok {d : Nat} {r89 : Int32 → Int32 → Int32 → Int32 → Int32 → Int32 → Int32 → Int32 → Int32 → pH → pR} (hr89 : ∀ (x1 : Int32) (x3 : Int32) (x5 : Int32) (x6 : Int32) (x7 : Int32) (x8 : Int32) (x9 : Int32) (x10 : Int32) (x11 : Int32) (h : pH) (q : Int32 × pH), r89 x1 x3 x5 x6 x7 x8 x9 x10 x11 h = some q → px_G (d + 105 + 1) (pX_RX11, prog_13_method_89_code, 15, (some .int)) 89 [some (.inr (.inl 51)), some (.inl x1), none, some (.inl x3), none, some (.inl x5), some (.inl x6), some (.inl x7), some (.inl x8), some (.inl x9), some (.inl x10), some (.inl x11), none, none, none] [] h q) : ∀ (x1 : Int32) (x3 : Int32) (x5 : Int32) (x6 : Int32) (x7 : Int32) (x8 : Int32) (x9 : Int32) (x10 : Int32) (x11 : Int32) (x12 : Int64) (h : pH) (q : Int32 × pH), mo_chance_156 r89 x1 x3 x5 x6 x7 x8 x9 x10 x11 x12 h = some q → px_G (d + 105 + 1) (pX_RX11, prog_13_method_89_code, 15, (some .int)) 156 [some (.inr (.inl 51)), some (.inl x1), none, some (.inl x3), none, some (.inl x5), some (.inl x6), some (.inl x7), some (.inl x8), some (.inl x9), some (.inl x10), some (.inl x11), some (.inr (.inr x12)), none, none] [] h q := by
  intro x1 x3 x5 x6 x7 x8 x9 x10 x11 x12 h q e
  exact px_blk_ok (d := d + 105) (M := (pX_RX11, prog_13_method_89_code, 15, (some .int))) (C := mo_chance_orc) (code := mo_chance_code) (ld := [171]) (kl := [(171, fun ls st h => px_if (px_fit [61, 1, 0, 1, 0, 1, 1, 1, 1, 1, 1, 1, 0, 0, 1] ls && px_fits [] st) (mo_chance_171 r89 (px_gi ls 1) (px_gi ls 3) (px_gi ls 5) (px_gi ls 6) (px_gi ls 7) (px_gi ls 8) (px_gi ls 9) (px_gi ls 10) (px_gi ls 11) (px_gi ls 14) h))]) (mo_chance_orc_ok) pX_ok_RX11 mo_chance_code_ok (px_k1 (px_ko (ts := [61, 1, 0, 1, 0, 1, 1, 1, 1, 1, 1, 1, 0, 0, 1]) (ss := []) fun ls st h q e => mo_chance_171_ok hr89 _ _ _ _ _ _ _ _ _ _ _ _ e) px_k0) 139 156 _ _ h q e
set_option maxRecDepth 200000 in
theorem mo_chance_96_ok {d : Nat} {r89 : Int32 → Int32 → Int32 → Int32 → Int32 → Int32 → Int32 → Int32 → Int32 → pH → pR} (hr89 : ∀ (x1 : Int32) (x3 : Int32) (x5 : Int32) (x6 : Int32) (x7 : Int32) (x8 : Int32) (x9 : Int32) (x10 : Int32) (x11 : Int32) (h : pH) (q : Int32 × pH), r89 x1 x3 x5 x6 x7 x8 x9 x10 x11 h = some q → px_G (d + 105 + 1) (pX_RX11, prog_13_method_89_code, 15, (some .int)) 89 [some (.inr (.inl 51)), some (.inl x1), none, some (.inl x3), none, some (.inl x5), some (.inl x6), some (.inl x7), some (.inl x8), some (.inl x9), some (.inl x10), some (.inl x11), none, none, none] [] h q) : ∀ (n : Nat) (x1 : Int32) (x3 : Int32) (x5 : Int32) (x6 : Int32) (x7 : Int32) (x8 : Int32) (x9 : Int32) (x10 : Int32) (x11 : Int32) (h : pH) (q : Int32 × pH), mo_chance_96 r89 n x1 x3 x5 x6 x7 x8 x9 x10 x11 h = some q → px_G (d + 105 + 1) (pX_RX11, prog_13_method_89_code, 15, (some .int)) 96 [some (.inr (.inl 51)), some (.inl x1), none, some (.inl x3), none, some (.inl x5), some (.inl x6), some (.inl x7), some (.inl x8), some (.inl x9), some (.inl x10), some (.inl x11), none, none, none] [] h q := by
  intro n
  induction n with
  | zero =>
    intro x1 x3 x5 x6 x7 x8 x9 x10 x11 h q e
    cases e
  | succ n ih =>
    intro x1 x3 x5 x6 x7 x8 x9 x10 x11 h q e
    exact px_blk_ok (d := d + 105) (M := (pX_RX11, prog_13_method_89_code, 15, (some .int))) (C := mo_chance_orc) (code := mo_chance_code) (ld := [96, 156]) (kl := [(96, fun ls st h => px_if (px_fit [61, 1, 0, 1, 0, 1, 1, 1, 1, 1, 1, 1, 0, 0, 0] ls && px_fits [] st) (mo_chance_96 r89 n (px_gi ls 1) (px_gi ls 3) (px_gi ls 5) (px_gi ls 6) (px_gi ls 7) (px_gi ls 8) (px_gi ls 9) (px_gi ls 10) (px_gi ls 11) h)), (156, fun ls st h => px_if (px_fit [61, 1, 0, 1, 0, 1, 1, 1, 1, 1, 1, 1, 3, 0, 0] ls && px_fits [] st) (mo_chance_156 r89 (px_gi ls 1) (px_gi ls 3) (px_gi ls 5) (px_gi ls 6) (px_gi ls 7) (px_gi ls 8) (px_gi ls 9) (px_gi ls 10) (px_gi ls 11) (px_gl ls 12) h))]) (mo_chance_orc_ok) pX_ok_RX11 mo_chance_code_ok (px_k1 (px_ko (ts := [61, 1, 0, 1, 0, 1, 1, 1, 1, 1, 1, 1, 0, 0, 0]) (ss := []) fun ls st h q e => ih _ _ _ _ _ _ _ _ _ _ _ e) (px_k1 (px_ko (ts := [61, 1, 0, 1, 0, 1, 1, 1, 1, 1, 1, 1, 3, 0, 0]) (ss := []) fun ls st h q e => mo_chance_156_ok hr89 _ _ _ _ _ _ _ _ _ _ _ _ e) px_k0)) 139 96 _ _ h q e
set_option maxRecDepth 200000 in
theorem mo_chance_89_ok {d : Nat} : ∀ (n : Nat) (x1 : Int32) (x3 : Int32) (x5 : Int32) (x6 : Int32) (x7 : Int32) (x8 : Int32) (x9 : Int32) (x10 : Int32) (x11 : Int32) (h : pH) (q : Int32 × pH), mo_chance_89 n x1 x3 x5 x6 x7 x8 x9 x10 x11 h = some q → px_G (d + 105 + 1) (pX_RX11, prog_13_method_89_code, 15, (some .int)) 89 [some (.inr (.inl 51)), some (.inl x1), none, some (.inl x3), none, some (.inl x5), some (.inl x6), some (.inl x7), some (.inl x8), some (.inl x9), some (.inl x10), some (.inl x11), none, none, none] [] h q := by
  intro n
  induction n with
  | zero =>
    intro x1 x3 x5 x6 x7 x8 x9 x10 x11 h q e
    cases e
  | succ n ih =>
    intro x1 x3 x5 x6 x7 x8 x9 x10 x11 h q e
    exact px_blk_ok (d := d + 105) (M := (pX_RX11, prog_13_method_89_code, 15, (some .int))) (C := mo_chance_orc) (code := mo_chance_code) (ld := [96, 229]) (kl := [(96, fun ls st h => px_if (px_fit [61, 1, 0, 1, 0, 1, 1, 1, 1, 1, 1, 1, 0, 0, 0] ls && px_fits [] st) (mo_chance_96 (mo_chance_89 n) px_F (px_gi ls 1) (px_gi ls 3) (px_gi ls 5) (px_gi ls 6) (px_gi ls 7) (px_gi ls 8) (px_gi ls 9) (px_gi ls 10) (px_gi ls 11) h)), (229, fun ls st h => px_if (px_fit [61, 0, 0, 0, 0, 0, 1, 0, 1, 0, 0, 0, 0, 0, 0] ls && px_fits [] st) (mo_chance_229 (px_gi ls 6) (px_gi ls 8) h))]) (mo_chance_orc_ok) pX_ok_RX11 mo_chance_code_ok (px_k1 (px_ko (ts := [61, 1, 0, 1, 0, 1, 1, 1, 1, 1, 1, 1, 0, 0, 0]) (ss := []) fun ls st h q e => mo_chance_96_ok ih _ _ _ _ _ _ _ _ _ _ _ _ e) (px_k1 (px_ko (ts := [61, 0, 0, 0, 0, 0, 1, 0, 1, 0, 0, 0, 0, 0, 0]) (ss := []) fun ls st h q e => mo_chance_229_ok _ _ _ _ e) px_k0)) 139 89 _ _ h q e
set_option maxRecDepth 200000 in
theorem mo_chance_29_ok {d : Nat} : ∀ (x1 : Int32) (x2 : Int32) (x3 : Int32) (s0 : Int32) (s1 : Int32) (h : pH) (q : Int32 × pH), mo_chance_29 x1 x2 x3 s0 s1 h = some q → px_G (d + 105 + 1) (pX_RX11, prog_13_method_89_code, 15, (some .int)) 29 [some (.inr (.inl 51)), some (.inl x1), some (.inl x2), some (.inl x3), none, none, none, none, none, none, none, none, none, none, none] [.inl s0, .inl s1, .inr (.inl 51)] h q := by
  intro x1 x2 x3 s0 s1 h q e
  exact px_blk_ok (d := d + 105) (M := (pX_RX11, prog_13_method_89_code, 15, (some .int))) (C := mo_chance_orc) (code := mo_chance_code) (ld := [89]) (kl := [(89, fun ls st h => px_if (px_fit [61, 1, 0, 1, 0, 1, 1, 1, 1, 1, 1, 1, 0, 0, 0] ls && px_fits [] st) (mo_chance_89 px_F (px_gi ls 1) (px_gi ls 3) (px_gi ls 5) (px_gi ls 6) (px_gi ls 7) (px_gi ls 8) (px_gi ls 9) (px_gi ls 10) (px_gi ls 11) h))]) (mo_chance_orc_ok) pX_ok_RX11 mo_chance_code_ok (px_k1 (px_ko (ts := [61, 1, 0, 1, 0, 1, 1, 1, 1, 1, 1, 1, 0, 0, 0]) (ss := []) fun ls st h q e => mo_chance_89_ok _ _ _ _ _ _ _ _ _ _ _ _ e) px_k0) 139 29 _ _ h q e
set_option maxRecDepth 200000 in
theorem mo_chance_ok {d : Nat} {x1 : Int32} {x2 : Int32} {h : pH} {q : Int32 × pH} (e : mo_chance x1 x2 h = some q) : px_Con (d + 106) 261 [.inr (.inl 51), .inl x1, .inl x2] h q :=
  px_con (X := pX_RX11) (b := prog_13_method_89_code) (nL := 15) (rt := (some .int)) rfl rfl (Nat.le_of_ble_eq_true rfl) rfl (px_blk_ok (d := d + 105) (M := (pX_RX11, prog_13_method_89_code, 15, (some .int))) (C := mo_chance_orc) (code := mo_chance_code) (ld := [29]) (kl := [(29, fun ls st h => px_if (px_fit [61, 1, 1, 1, 0, 0, 0, 0, 0, 0, 0, 0, 0, 0, 0] ls && px_fits [1, 1, 61] st) (mo_chance_29 (px_gi ls 1) (px_gi ls 2) (px_gi ls 3) (px_si st 0) (px_si st 1) h))]) (mo_chance_orc_ok) pX_ok_RX11 mo_chance_code_ok (px_k1 (px_ko (ts := [61, 1, 1, 1, 0, 0, 0, 0, 0, 0, 0, 0, 0, 0, 0]) (ss := [1, 1, 61]) fun ls st h q e => mo_chance_29_ok _ _ _ _ _ _ _ e) px_k0) 139 0 _ _ _ q e)
