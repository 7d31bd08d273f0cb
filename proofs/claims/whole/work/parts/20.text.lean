/-! small ones, Text -/
/-! WordsUnsaid.at([II)I -/
noncomputable def wu_at_17 (s0 : Int32) (h : pH) : pR :=
  some (s0, h)
noncomputable def wu_at_16 (h : pH) : pR :=
  wu_at_17 (px_c 0) h
noncomputable def wu_at (a0 : Nat) (x1 : Int32) (h : pH) : pR :=
  if x1 < 0 then
    wu_at_16 h
  else
    px_if (Nat.blt (px_tag a0) 4) <|
    if (nI (px_len a0)) ≤ x1 then
      wu_at_16 h
    else
      px_if (px_ok 0 a0 x1) <|
      wu_at_17 (h a0 x1.toNatClampNeg) h
def wu_at_code : pCode := [(0, .iload_n 1, 1), (1, .ifCond .lt (15), 3), (4, .iload_n 1, 1), (5, .aload_n 0, 1), (6, .arraylength, 1), (7, .if_icmp .ge (9), 3), (10, .aload_n 0, 1), (11, .iload_n 1, 1), (12, .iaload, 1), (13, .goto (4), 3), (16, .iconst 0, 1), (17, .ireturn, 1)]
set_option maxRecDepth 200000 in
theorem wu_at_code_ok : px_code prog_1_method_40_code wu_at_code = true := by decide +kernel
noncomputable def wu_at_orc : pC := px_orc []
theorem wu_at_orc_ok {d : Nat} : px_Or (d + 0) (wu_at_orc) := px_orc_ok (by
  exact px_o0)
set_option maxRecDepth 200000 in
theorem wu_at_17_ok {d : Nat} : ∀ (s0 : Int32) (h : pH) (q : Int32 × pH), wu_at_17 s0 h = some q → px_G (d + 0 + 1) (pX_RX10, prog_1_method_40_code, 2, (some .int)) 17 [none, none] [.inl s0] h q := by
  intro s0 h q e
  exact px_blk_ok (d := d + 0) (M := (pX_RX10, prog_1_method_40_code, 2, (some .int))) (C := wu_at_orc) (code := wu_at_code) (ld := []) (kl := []) (wu_at_orc_ok) pX_ok_RX10 wu_at_code_ok (px_k0) 17 17 _ _ h q e
set_option maxRecDepth 200000 in
theorem wu_at_16_ok {d : Nat} : ∀ (h : pH) (q : Int32 × pH), wu_at_16 h = some q → px_G (d + 0 + 1) (pX_RX10, prog_1_method_40_code, 2, (some .int)) 16 [none, none] [] h q := by
  intro h q e
  exact px_blk_ok (d := d + 0) (M := (pX_RX10, prog_1_method_40_code, 2, (some .int))) (C := wu_at_orc) (code := wu_at_code) (ld := [17]) (kl := [(17, fun ls st h => px_if (px_fit [0, 0] ls && px_fits [1] st) (wu_at_17 (px_si st 0) h))]) (wu_at_orc_ok) pX_ok_RX10 wu_at_code_ok (px_k1 (px_ko (ts := [0, 0]) (ss := [1]) fun ls st h q e => wu_at_17_ok _ _ _ e) px_k0) 17 16 _ _ h q e
set_option maxRecDepth 200000 in
theorem wu_at_ok {d : Nat} {a0 : Nat} {x1 : Int32} {h : pH} {q : Int32 × pH} (e : wu_at a0 x1 h = some q) : px_Con (d + 1) 158 [.inr (.inl a0), .inl x1] h q :=
  px_con (X := pX_RX10) (b := prog_1_method_40_code) (nL := 2) (rt := (some .int)) rfl rfl (Nat.le_of_ble_eq_true rfl) rfl (px_blk_ok (d := d + 0) (M := (pX_RX10, prog_1_method_40_code, 2, (some .int))) (C := wu_at_orc) (code := wu_at_code) (ld := [16, 17]) (kl := [(16, fun ls st h => px_if (px_fit [0, 0] ls && px_fits [] st) (wu_at_16 h)), (17, fun ls st h => px_if (px_fit [0, 0] ls && px_fits [1] st) (wu_at_17 (px_si st 0) h))]) (wu_at_orc_ok) pX_ok_RX10 wu_at_code_ok (px_k1 (px_ko (ts := [0, 0]) (ss := []) fun ls st h q e => wu_at_16_ok _ _ e) (px_k1 (px_ko (ts := [0, 0]) (ss := [1]) fun ls st h q e => wu_at_17_ok _ _ _ e) px_k0)) 17 0 _ _ _ q e)
/-! WordsUnsaid.put([III)V -/
noncomputable def wu_put_14 (h : pH) : pR :=
  some (0, h)
noncomputable def wu_put (a0 : Nat) (x1 : Int32) (x2 : Int32) (h : pH) : pR :=
  if x1 < 0 then
    wu_put_14 h
  else
    px_if (Nat.blt (px_tag a0) 4) <|
    if (nI (px_len a0)) ≤ x1 then
      wu_put_14 h
    else
      px_if (px_ok 0 a0 x1) <|
      let h1 := px_w h a0 x1.toNatClampNeg x2
      wu_put_14 h1
def wu_put_code : pCode := [(0, .iload_n 1, 1), (1, .ifCond .lt (13), 3), (4, .iload_n 1, 1), (5, .aload_n 0, 1), (6, .arraylength, 1), (7, .if_icmp .ge (7), 3), (10, .aload_n 0, 1), (11, .iload_n 1, 1), (12, .iload_n 2, 1), (13, .iastore, 1), (14, .return_, 1)]
set_option maxRecDepth 200000 in
theorem wu_put_code_ok : px_code prog_1_method_41_code wu_put_code = true := by decide +kernel
noncomputable def wu_put_orc : pC := px_orc []
theorem wu_put_orc_ok {d : Nat} : px_Or (d + 0) (wu_put_orc) := px_orc_ok (by
  exact px_o0)
set_option maxRecDepth 200000 in
theorem wu_put_14_ok {d : Nat} : ∀ (h : pH) (q : Int32 × pH), wu_put_14 h = some q → px_G (d + 0 + 1) (pX_RX10, prog_1_method_41_code, 3, none) 14 [none, none, none] [] h q := by
  intro h q e
  exact px_blk_ok (d := d + 0) (M := (pX_RX10, prog_1_method_41_code, 3, none)) (C := wu_put_orc) (code := wu_put_code) (ld := []) (kl := []) (wu_put_orc_ok) pX_ok_RX10 wu_put_code_ok (px_k0) 16 14 _ _ h q e
set_option maxRecDepth 200000 in
theorem wu_put_ok {d : Nat} {a0 : Nat} {x1 : Int32} {x2 : Int32} {h : pH} {q : Int32 × pH} (e : wu_put a0 x1 x2 h = some q) : px_Con (d + 1) 159 [.inr (.inl a0), .inl x1, .inl x2] h q :=
  px_con (X := pX_RX10) (b := prog_1_method_41_code) (nL := 3) (rt := none) rfl rfl (Nat.le_of_ble_eq_true rfl) rfl (px_blk_ok (d := d + 0) (M := (pX_RX10, prog_1_method_41_code, 3, none)) (C := wu_put_orc) (code := wu_put_code) (ld := [14]) (kl := [(14, fun ls st h => px_if (px_fit [0, 0, 0] ls && px_fits [] st) (wu_put_14 h))]) (wu_put_orc_ok) pX_ok_RX10 wu_put_code_ok (px_k1 (px_ko (ts := [0, 0, 0]) (ss := []) fun ls st h q e => wu_put_14_ok _ _ e) px_k0) 16 0 _ _ _ q e)
/-! WordsUnsaid.has(II)Z -/
noncomputable def wu_has_24 (s0 : Int32) (h : pH) : pR :=
  px_bz s0 h
noncomputable def wu_has_23 (h : pH) : pR :=
  wu_has_24 (px_c 0) h
noncomputable def wu_has (x0 : Int32) (x1 : Int32) (h : pH) : pR :=
  if x1 < 0 then
    wu_has_23 h
  else
    if (px_c 32) ≤ x1 then
      wu_has_23 h
    else
      if ((px_ush x0 x1) &&& (px_c 1)) = (px_c 1) then
        wu_has_24 (px_c 1) h
      else
        wu_has_23 h
def wu_has_code : pCode := [(0, .iload_n 1, 1), (1, .ifCond .lt (22), 3), (4, .iload_n 1, 1), (5, .bipush (32), 2), (7, .if_icmp .ge (16), 3), (10, .iload_n 0, 1), (11, .iload_n 1, 1), (12, .iushr, 1), (13, .iconst 1, 1), (14, .iand, 1), (15, .iconst 1, 1), (16, .if_icmp .ne (7), 3), (19, .iconst 1, 1), (20, .goto (4), 3), (23, .iconst 0, 1), (24, .ireturn, 1)]
set_option maxRecDepth 200000 in
theorem wu_has_code_ok : px_code prog_1_method_42_code wu_has_code = true := by decide +kernel
noncomputable def wu_has_orc : pC := px_orc []
theorem wu_has_orc_ok {d : Nat} : px_Or (d + 0) (wu_has_orc) := px_orc_ok (by
  exact px_o0)
set_option maxRecDepth 200000 in
theorem wu_has_24_ok {d : Nat} : ∀ (s0 : Int32) (h : pH) (q : Int32 × pH), wu_has_24 s0 h = some q → px_G (d + 0 + 1) (pX_RX10, prog_1_method_42_code, 2, (some .boolean)) 24 [none, none] [.inl s0] h q := by
  intro s0 h q e
  exact px_blk_ok (d := d + 0) (M := (pX_RX10, prog_1_method_42_code, 2, (some .boolean))) (C := wu_has_orc) (code := wu_has_code) (ld := []) (kl := []) (wu_has_orc_ok) pX_ok_RX10 wu_has_code_ok (px_k0) 21 24 _ _ h q e
set_option maxRecDepth 200000 in
theorem wu_has_23_ok {d : Nat} : ∀ (h : pH) (q : Int32 × pH), wu_has_23 h = some q → px_G (d + 0 + 1) (pX_RX10, prog_1_method_42_code, 2, (some .boolean)) 23 [none, none] [] h q := by
  intro h q e
  exact px_blk_ok (d := d + 0) (M := (pX_RX10, prog_1_method_42_code, 2, (some .boolean))) (C := wu_has_orc) (code := wu_has_code) (ld := [24]) (kl := [(24, fun ls st h => px_if (px_fit [0, 0] ls && px_fits [1] st) (wu_has_24 (px_si st 0) h))]) (wu_has_orc_ok) pX_ok_RX10 wu_has_code_ok (px_k1 (px_ko (ts := [0, 0]) (ss := [1]) fun ls st h q e => wu_has_24_ok _ _ _ e) px_k0) 21 23 _ _ h q e
set_option maxRecDepth 200000 in
theorem wu_has_ok {d : Nat} {x0 : Int32} {x1 : Int32} {h : pH} {q : Int32 × pH} (e : wu_has x0 x1 h = some q) : px_Con (d + 1) 160 [.inl x0, .inl x1] h q :=
  px_con (X := pX_RX10) (b := prog_1_method_42_code) (nL := 2) (rt := (some .boolean)) rfl rfl (Nat.le_of_ble_eq_true rfl) rfl (px_blk_ok (d := d + 0) (M := (pX_RX10, prog_1_method_42_code, 2, (some .boolean))) (C := wu_has_orc) (code := wu_has_code) (ld := [23, 24]) (kl := [(23, fun ls st h => px_if (px_fit [0, 0] ls && px_fits [] st) (wu_has_23 h)), (24, fun ls st h => px_if (px_fit [0, 0] ls && px_fits [1] st) (wu_has_24 (px_si st 0) h))]) (wu_has_orc_ok) pX_ok_RX10 wu_has_code_ok (px_k1 (px_ko (ts := [0, 0]) (ss := []) fun ls st h q e => wu_has_23_ok _ _ e) (px_k1 (px_ko (ts := [0, 0]) (ss := [1]) fun ls st h q e => wu_has_24_ok _ _ _ e) px_k0)) 21 0 _ _ _ q e)
/-! WordsUnsaid.firstOf(I)I -/
noncomputable def wu_firstOf_2 : Nat → Int32 → Int32 → pH → pR
  | 0, _, _, _ => none
  | n + 1, x0, x1, h =>
    if (px_c 32) ≤ x1 then
      some (px_c (-1), h)
    else
      px_bind (wu_has x0 x1 h) fun z1 h2 =>
      if z1 = 0 then
        wu_firstOf_2 n x0 (x1 + px_c 1) h2
      else
        some (x1, h2)
noncomputable def wu_firstOf (x0 : Int32) (h : pH) : pR :=
  wu_firstOf_2 px_F x0 (px_c 0) h
def wu_firstOf_code : pCode := [(0, .iconst 0, 1), (1, .istore_n 1, 1), (2, .iload_n 1, 1), (3, .bipush (32), 2), (5, .if_icmp .ge (19), 3), (8, .iload_n 0, 1), (9, .iload_n 1, 1), (10, .invokestatic 346, 3), (13, .ifCond .eq (5), 3), (16, .iload_n 1, 1), (17, .ireturn, 1), (18, .iinc 1 (1), 3), (21, .goto (-19), 3), (24, .iconst (-1), 1), (25, .ireturn, 1)]
set_option maxRecDepth 200000 in
theorem wu_firstOf_code_ok : px_code prog_1_method_43_code wu_firstOf_code = true := by decide +kernel
noncomputable def wu_firstOf_orc : pC := px_orc [(160, fun a h => match a with
    | [.inl v0, .inl v1] => wu_has v0 v1 h
    | _ => none)]
theorem wu_firstOf_orc_ok {d : Nat} : px_Or (d + 1) (wu_firstOf_orc) := px_orc_ok (by
  refine px_o1 (fun a h q e => by
    dsimp only at e
    split at e
    · exact wu_has_ok (d := d + 0) e
    · cases e) ?_
  exact px_o0)
set_option maxRecDepth 200000 in
theorem wu_firstOf_2_ok {d : Nat} : ∀ (n : Nat) (x0 : Int32) (x1 : Int32) (h : pH) (q : Int32 × pH), wu_firstOf_2 n x0 x1 h = some q → px_G (d + 1 + 1) (pX_RX10, prog_1_method_43_code, 2, (some .int)) 2 [some (.inl x0), some (.inl x1)] [] h q := by
  intro n
  induction n with
  | zero =>
    intro x0 x1 h q e
    cases e
  | succ n ih =>
    intro x0 x1 h q e
    exact px_blk_ok (d := d + 1) (M := (pX_RX10, prog_1_method_43_code, 2, (some .int))) (C := wu_firstOf_orc) (code := wu_firstOf_code) (ld := [2]) (kl := [(2, fun ls st h => px_if (px_fit [1, 1] ls && px_fits [] st) (wu_firstOf_2 n (px_gi ls 0) (px_gi ls 1) h))]) (wu_firstOf_orc_ok) pX_ok_RX10 wu_firstOf_code_ok (px_k1 (px_ko (ts := [1, 1]) (ss := []) fun ls st h q e => ih _ _ _ _ e) px_k0) 20 2 _ _ h q e
set_option maxRecDepth 200000 in
theorem wu_firstOf_ok {d : Nat} {x0 : Int32} {h : pH} {q : Int32 × pH} (e : wu_firstOf x0 h = some q) : px_Con (d + 2) 161 [.inl x0] h q :=
  px_con (X := pX_RX10) (b := prog_1_method_43_code) (nL := 2) (rt := (some .int)) rfl rfl (Nat.le_of_ble_eq_true rfl) rfl (px_blk_ok (d := d + 1) (M := (pX_RX10, prog_1_method_43_code, 2, (some .int))) (C := wu_firstOf_orc) (code := wu_firstOf_code) (ld := [2]) (kl := [(2, fun ls st h => px_if (px_fit [1, 1] ls && px_fits [] st) (wu_firstOf_2 px_F (px_gi ls 0) (px_gi ls 1) h))]) (wu_firstOf_orc_ok) pX_ok_RX10 wu_firstOf_code_ok (px_k1 (px_ko (ts := [1, 1]) (ss := []) fun ls st h q e => wu_firstOf_2_ok _ _ _ _ _ e) px_k0) 20 0 _ _ _ q e)
/-! WordsUnsaid.pressOf(II)I -/
noncomputable def wu_pressOf_20 (s0 : Int32) (h : pH) : pR :=
  some (px_max (px_c 0) (px_min (px_c 9) s0), h)
noncomputable def wu_pressOf (x0 : Int32) (x1 : Int32) (h : pH) : pR :=
  if x0 = 0 then
    wu_pressOf_20 (px_i2b x1) h
  else
    if x0 = (px_c 1) then
      wu_pressOf_20 (px_i2s x1) h
    else
      wu_pressOf_20 x1 h
def wu_pressOf_code : pCode := [(0, .iload_n 0, 1), (1, .ifCond .ne (8), 3), (4, .iload_n 1, 1), (5, .i2b, 1), (6, .goto (14), 3), (9, .iload_n 0, 1), (10, .iconst 1, 1), (11, .if_icmp .ne (8), 3), (14, .iload_n 1, 1), (15, .i2s, 1), (16, .goto (4), 3), (19, .iload_n 1, 1), (20, .istore_n 2, 1), (21, .iconst 0, 1), (22, .bipush (9), 2), (24, .iload_n 2, 1), (25, .invokestatic 275, 3), (28, .invokestatic 441, 3), (31, .ireturn, 1)]
set_option maxRecDepth 200000 in
theorem wu_pressOf_code_ok : px_code prog_1_method_44_code wu_pressOf_code = true := by decide +kernel
noncomputable def wu_pressOf_orc : pC := px_orc []
theorem wu_pressOf_orc_ok {d : Nat} : px_Or (d + 0) (wu_pressOf_orc) := px_orc_ok (by
  exact px_o0)
set_option maxRecDepth 200000 in
theorem wu_pressOf_20_ok {d : Nat} : ∀ (s0 : Int32) (h : pH) (q : Int32 × pH), wu_pressOf_20 s0 h = some q → px_G (d + 0 + 1) (pX_RX10, prog_1_method_44_code, 3, (some .int)) 20 [none, none, none] [.inl s0] h q := by
  intro s0 h q e
  exact px_blk_ok (d := d + 0) (M := (pX_RX10, prog_1_method_44_code, 3, (some .int))) (C := wu_pressOf_orc) (code := wu_pressOf_code) (ld := []) (kl := []) (wu_pressOf_orc_ok) pX_ok_RX10 wu_pressOf_code_ok (px_k0) 24 20 _ _ h q e
set_option maxRecDepth 200000 in
theorem wu_pressOf_ok {d : Nat} {x0 : Int32} {x1 : Int32} {h : pH} {q : Int32 × pH} (e : wu_pressOf x0 x1 h = some q) : px_Con (d + 1) 162 [.inl x0, .inl x1] h q :=
  px_con (X := pX_RX10) (b := prog_1_method_44_code) (nL := 3) (rt := (some .int)) rfl rfl (Nat.le_of_ble_eq_true rfl) rfl (px_blk_ok (d := d + 0) (M := (pX_RX10, prog_1_method_44_code, 3, (some .int))) (C := wu_pressOf_orc) (code := wu_pressOf_code) (ld := [20]) (kl := [(20, fun ls st h => px_if (px_fit [0, 0, 0] ls && px_fits [1] st) (wu_pressOf_20 (px_si st 0) h))]) (wu_pressOf_orc_ok) pX_ok_RX10 wu_pressOf_code_ok (px_k1 (px_ko (ts := [0, 0, 0]) (ss := [1]) fun ls st h q e => wu_pressOf_20_ok _ _ _ e) px_k0) 24 0 _ _ _ q e)
/-! java/lang/Integer.bitCount(I)I -/
noncomputable def jn_bitCount (x0 : Int32) (h : pH) : pR :=
  let y0_1 := x0 - ((px_ush x0 (px_c 1)) &&& (px_k 1431655765))
  let y0_2 := (y0_1 &&& (px_k 858993459)) + ((px_ush y0_1 (px_c 2)) &&& (px_k 858993459))
  let y0_3 := (y0_2 + (px_ush y0_2 (px_c 4))) &&& (px_k 252645135)
  let y0_4 := y0_3 + (px_ush y0_3 (px_c 8))
  let y0_5 := y0_4 + (px_ush y0_4 (px_c 16))
  some (y0_5 &&& (px_c 63), h)
def jn_bitCount_code : pCode := [(0, .iload_n 0, 1), (1, .iload_n 0, 1), (2, .iconst 1, 1), (3, .iushr, 1), (4, .ldc_w 265, 3), (7, .iand, 1), (8, .isub, 1), (9, .istore_n 0, 1), (10, .iload_n 0, 1), (11, .ldc_w 266, 3), (14, .iand, 1), (15, .iload_n 0, 1), (16, .iconst 2, 1), (17, .iushr, 1), (18, .ldc_w 266, 3), (21, .iand, 1), (22, .iadd, 1), (23, .istore_n 0, 1), (24, .iload_n 0, 1), (25, .iload_n 0, 1), (26, .iconst 4, 1), (27, .iushr, 1), (28, .iadd, 1), (29, .ldc_w 267, 3), (32, .iand, 1), (33, .istore_n 0, 1), (34, .iload_n 0, 1), (35, .iload_n 0, 1), (36, .bipush (8), 2), (38, .iushr, 1), (39, .iadd, 1), (40, .istore_n 0, 1), (41, .iload_n 0, 1), (42, .iload_n 0, 1), (43, .bipush (16), 2), (45, .iushr, 1), (46, .iadd, 1), (47, .istore_n 0, 1), (48, .iload_n 0, 1), (49, .bipush (63), 2), (51, .iand, 1), (52, .ireturn, 1)]
set_option maxRecDepth 200000 in
theorem jn_bitCount_code_ok : px_code prog_16_method_49_code jn_bitCount_code = true := by decide +kernel
noncomputable def jn_bitCount_orc : pC := px_orc []
theorem jn_bitCount_orc_ok {d : Nat} : px_Or (d + 0) (jn_bitCount_orc) := px_orc_ok (by
  exact px_o0)
set_option maxRecDepth 200000 in
theorem jn_bitCount_ok {d : Nat} {x0 : Int32} {h : pH} {q : Int32 × pH} (e : jn_bitCount x0 h = some q) : px_Con (d + 1) 279 [.inl x0] h q :=
  px_con (X := pX_RJ6) (b := prog_16_method_49_code) (nL := 1) (rt := (some .int)) rfl rfl (Nat.le_of_ble_eq_true rfl) rfl (px_blk_ok (d := d + 0) (M := (pX_RJ6, prog_16_method_49_code, 1, (some .int))) (C := jn_bitCount_orc) (code := jn_bitCount_code) (ld := []) (kl := []) (jn_bitCount_orc_ok) pX_ok_RJ6 jn_bitCount_code_ok (px_k0) 47 0 _ _ _ q e)
/-! java/lang/Integer.numberOfTrailingZeros(I)I -/
noncomputable def jn_numberOfTrailingZeros_74 (x0 : Int32) (x1 : Int32) (h : pH) : pR :=
  some (x1 + (px_ush x0 (px_c 1)), h)
noncomputable def jn_numberOfTrailingZeros_62 (x0 : Int32) (x1 : Int32) (h : pH) : pR :=
  if x0 ≤ (px_c 4) then
    jn_numberOfTrailingZeros_74 x0 x1 h
  else
    let y0_1 := px_ush x0 (px_c 2)
    jn_numberOfTrailingZeros_74 y0_1 (x1 + px_c 2) h
noncomputable def jn_numberOfTrailingZeros_49 (x0 : Int32) (x1 : Int32) (h : pH) : pR :=
  if x0 ≤ (px_c 16) then
    jn_numberOfTrailingZeros_62 x0 x1 h
  else
    let y0_1 := px_ush x0 (px_c 4)
    jn_numberOfTrailingZeros_62 y0_1 (x1 + px_c 4) h
noncomputable def jn_numberOfTrailingZeros_34 (x0 : Int32) (x1 : Int32) (h : pH) : pR :=
  if x0 ≤ (px_c 256) then
    jn_numberOfTrailingZeros_49 x0 x1 h
  else
    let y0_1 := px_ush x0 (px_c 8)
    jn_numberOfTrailingZeros_49 y0_1 (x1 + px_c 8) h
noncomputable def jn_numberOfTrailingZeros (x0 : Int32) (h : pH) : pR :=
  let y0_1 := (x0 ^^^ (px_c (-1))) &&& (x0 - (px_c 1))
  if 0 < y0_1 then
    if y0_1 ≤ (px_k 65536) then
      jn_numberOfTrailingZeros_34 y0_1 (px_c 1) h
    else
      let y0_2 := px_ush y0_1 (px_c 16)
      jn_numberOfTrailingZeros_34 y0_2 ((px_c 1) + px_c 16) h
  else
    some (y0_1 &&& (px_c 32), h)
def jn_numberOfTrailingZeros_code : pCode := [(0, .iload_n 0, 1), (1, .iconst (-1), 1), (2, .ixor, 1), (3, .iload_n 0, 1), (4, .iconst 1, 1), (5, .isub, 1), (6, .iand, 1), (7, .istore_n 0, 1), (8, .iload_n 0, 1), (9, .ifCond .gt (8), 3), (12, .iload_n 0, 1), (13, .bipush (32), 2), (15, .iand, 1), (16, .ireturn, 1), (17, .iconst 1, 1), (18, .istore_n 1, 1), (19, .iload_n 0, 1), (20, .ldc_w 264, 3), (23, .if_icmp .le (11), 3), (26, .iinc 1 (16), 3), (29, .iload_n 0, 1), (30, .bipush (16), 2), (32, .iushr, 1), (33, .istore_n 0, 1), (34, .iload_n 0, 1), (35, .sipush (256), 3), (38, .if_icmp .le (11), 3), (41, .iinc 1 (8), 3), (44, .iload_n 0, 1), (45, .bipush (8), 2), (47, .iushr, 1), (48, .istore_n 0, 1), (49, .iload_n 0, 1), (50, .bipush (16), 2), (52, .if_icmp .le (10), 3), (55, .iinc 1 (4), 3), (58, .iload_n 0, 1), (59, .iconst 4, 1), (60, .iushr, 1), (61, .istore_n 0, 1), (62, .iload_n 0, 1), (63, .iconst 4, 1), (64, .if_icmp .le (10), 3), (67, .iinc 1 (2), 3), (70, .iload_n 0, 1), (71, .iconst 2, 1), (72, .iushr, 1), (73, .istore_n 0, 1), (74, .iload_n 1, 1), (75, .iload_n 0, 1), (76, .iconst 1, 1), (77, .iushr, 1), (78, .iadd, 1), (79, .ireturn, 1)]
set_option maxRecDepth 200000 in
theorem jn_numberOfTrailingZeros_code_ok : px_code prog_16_method_48_code jn_numberOfTrailingZeros_code = true := by decide +kernel
noncomputable def jn_numberOfTrailingZeros_orc : pC := px_orc []
theorem jn_numberOfTrailingZeros_orc_ok {d : Nat} : px_Or (d + 0) (jn_numberOfTrailingZeros_orc) := px_orc_ok (by
  exact px_o0)
set_option maxRecDepth 200000 in
theorem jn_numberOfTrailingZeros_74_ok {d : Nat} : ∀ (x0 : Int32) (x1 : Int32) (h : pH) (q : Int32 × pH), jn_numberOfTrailingZeros_74 x0 x1 h = some q → px_G (d + 0 + 1) (pX_RJ6, prog_16_method_48_code, 2, (some .int)) 74 [some (.inl x0), some (.inl x1)] [] h q := by
  intro x0 x1 h q e
  exact px_blk_ok (d := d + 0) (M := (pX_RJ6, prog_16_method_48_code, 2, (some .int))) (C := jn_numberOfTrailingZeros_orc) (code := jn_numberOfTrailingZeros_code) (ld := []) (kl := []) (jn_numberOfTrailingZeros_orc_ok) pX_ok_RJ6 jn_numberOfTrailingZeros_code_ok (px_k0) 59 74 _ _ h q e
set_option maxRecDepth 200000 in
theorem jn_numberOfTrailingZeros_62_ok {d : Nat} : ∀ (x0 : Int32) (x1 : Int32) (h : pH) (q : Int32 × pH), jn_numberOfTrailingZeros_62 x0 x1 h = some q → px_G (d + 0 + 1) (pX_RJ6, prog_16_method_48_code, 2, (some .int)) 62 [some (.inl x0), some (.inl x1)] [] h q := by
  intro x0 x1 h q e
  exact px_blk_ok (d := d + 0) (M := (pX_RJ6, prog_16_method_48_code, 2, (some .int))) (C := jn_numberOfTrailingZeros_orc) (code := jn_numberOfTrailingZeros_code) (ld := [74]) (kl := [(74, fun ls st h => px_if (px_fit [1, 1] ls && px_fits [] st) (jn_numberOfTrailingZeros_74 (px_gi ls 0) (px_gi ls 1) h))]) (jn_numberOfTrailingZeros_orc_ok) pX_ok_RJ6 jn_numberOfTrailingZeros_code_ok (px_k1 (px_ko (ts := [1, 1]) (ss := []) fun ls st h q e => jn_numberOfTrailingZeros_74_ok _ _ _ _ e) px_k0) 59 62 _ _ h q e
set_option maxRecDepth 200000 in
theorem jn_numberOfTrailingZeros_49_ok {d : Nat} : ∀ (x0 : Int32) (x1 : Int32) (h : pH) (q : Int32 × pH), jn_numberOfTrailingZeros_49 x0 x1 h = some q → px_G (d + 0 + 1) (pX_RJ6, prog_16_method_48_code, 2, (some .int)) 49 [some (.inl x0), some (.inl x1)] [] h q := by
  intro x0 x1 h q e
  exact px_blk_ok (d := d + 0) (M := (pX_RJ6, prog_16_method_48_code, 2, (some .int))) (C := jn_numberOfTrailingZeros_orc) (code := jn_numberOfTrailingZeros_code) (ld := [62]) (kl := [(62, fun ls st h => px_if (px_fit [1, 1] ls && px_fits [] st) (jn_numberOfTrailingZeros_62 (px_gi ls 0) (px_gi ls 1) h))]) (jn_numberOfTrailingZeros_orc_ok) pX_ok_RJ6 jn_numberOfTrailingZeros_code_ok (px_k1 (px_ko (ts := [1, 1]) (ss := []) fun ls st h q e => jn_numberOfTrailingZeros_62_ok _ _ _ _ e) px_k0) 59 49 _ _ h q e
set_option maxRecDepth 200000 in
theorem jn_numberOfTrailingZeros_34_ok {d : Nat} : ∀ (x0 : Int32) (x1 : Int32) (h : pH) (q : Int32 × pH), jn_numberOfTrailingZeros_34 x0 x1 h = some q → px_G (d + 0 + 1) (pX_RJ6, prog_16_method_48_code, 2, (some .int)) 34 [some (.inl x0), some (.inl x1)] [] h q := by
  intro x0 x1 h q e
  exact px_blk_ok (d := d + 0) (M := (pX_RJ6, prog_16_method_48_code, 2, (some .int))) (C := jn_numberOfTrailingZeros_orc) (code := jn_numberOfTrailingZeros_code) (ld := [49]) (kl := [(49, fun ls st h => px_if (px_fit [1, 1] ls && px_fits [] st) (jn_numberOfTrailingZeros_49 (px_gi ls 0) (px_gi ls 1) h))]) (jn_numberOfTrailingZeros_orc_ok) pX_ok_RJ6 jn_numberOfTrailingZeros_code_ok (px_k1 (px_ko (ts := [1, 1]) (ss := []) fun ls st h q e => jn_numberOfTrailingZeros_49_ok _ _ _ _ e) px_k0) 59 34 _ _ h q e
set_option maxRecDepth 200000 in
theorem jn_numberOfTrailingZeros_ok {d : Nat} {x0 : Int32} {h : pH} {q : Int32 × pH} (e : jn_numberOfTrailingZeros x0 h = some q) : px_Con (d + 1) 280 [.inl x0] h q :=
  px_con (X := pX_RJ6) (b := prog_16_method_48_code) (nL := 2) (rt := (some .int)) rfl rfl (Nat.le_of_ble_eq_true rfl) rfl (px_blk_ok (d := d + 0) (M := (pX_RJ6, prog_16_method_48_code, 2, (some .int))) (C := jn_numberOfTrailingZeros_orc) (code := jn_numberOfTrailingZeros_code) (ld := [34]) (kl := [(34, fun ls st h => px_if (px_fit [1, 1] ls && px_fits [] st) (jn_numberOfTrailingZeros_34 (px_gi ls 0) (px_gi ls 1) h))]) (jn_numberOfTrailingZeros_orc_ok) pX_ok_RJ6 jn_numberOfTrailingZeros_code_ok (px_k1 (px_ko (ts := [1, 1]) (ss := []) fun ls st h q e => jn_numberOfTrailingZeros_34_ok _ _ _ _ e) px_k0) 59 0 _ _ _ q e)
/-! WordsUnsaid$Text.add(I)Z -/
noncomputable def tx_add_64 (r14 : Int32 → Int32 → pH → pR) (x1 : Int32) (x2 : Int32) (h : pH) : pR :=
  r14 x1 (x2 + px_c (-8)) h
noncomputable def tx_add_14 : Nat → Int32 → Int32 → pH → pR
  | 0, _, _, _ => none
  | n + 1, x1, x2, h =>
    if x2 < 0 then
      px_bz (px_c 1) h
    else
      if (h 1 1) < 0 then
        tx_add_64 (tx_add_14 n) x1 x2 h
      else
        if (nI (px_len 2)) ≤ (h 1 1) then
          tx_add_64 (tx_add_14 n) x1 x2 h
        else
          px_if (px_ok 2 2 (h 1 1)) <|
          let h1 := px_w h 2 (h 1 1).toNatClampNeg (px_nc (px_i2c ((px_ush x1 x2) &&& (px_c 255))))
          let h2 := px_w h1 1 1 ((h1 1 1) + (px_c 1))
          tx_add_64 (tx_add_14 n) x1 x2 h2
noncomputable def tx_add (x1 : Int32) (h : pH) : pR :=
  if (h 1 1) ≤ (px_c 76) then
    tx_add_14 px_F x1 (px_c 24) h
  else
    px_bz (px_c 0) h
def tx_add_code : pCode := [(0, .aload_n 0, 1), (1, .getfield 15, 3), (4, .bipush (76), 2), (6, .if_icmp .le (5), 3), (9, .iconst 0, 1), (10, .ireturn, 1), (11, .bipush (24), 2), (13, .istore_n 2, 1), (14, .iload_n 2, 1), (15, .ifCond .lt (55), 3), (18, .aload_n 0, 1), (19, .getfield 15, 3), (22, .ifCond .lt (42), 3), (25, .aload_n 0, 1), (26, .getfield 15, 3), (29, .aload_n 0, 1), (30, .getfield 11, 3), (33, .arraylength, 1), (34, .if_icmp .ge (30), 3), (37, .aload_n 0, 1), (38, .getfield 11, 3), (41, .aload_n 0, 1), (42, .getfield 15, 3), (45, .iload_n 1, 1), (46, .iload_n 2, 1), (47, .iushr, 1), (48, .sipush (255), 3), (51, .iand, 1), (52, .i2c, 1), (53, .castore, 1), (54, .aload_n 0, 1), (55, .dup, 1), (56, .getfield 15, 3), (59, .iconst 1, 1), (60, .iadd, 1), (61, .putfield 15, 3), (64, .iinc 2 (-8), 3), (67, .goto (-53), 3), (70, .iconst 1, 1), (71, .ireturn, 1)]
set_option maxRecDepth 200000 in
theorem tx_add_code_ok : px_code prog_10_method_2_code tx_add_code = true := by decide +kernel
noncomputable def tx_add_orc : pC := px_orc []
theorem tx_add_orc_ok {d : Nat} : px_Or (d + 0) (tx_add_orc) := px_orc_ok (by
  exact px_o0)
set_option maxRecDepth 200000 in
theorem tx_add_64_ok {d : Nat} {r14 : Int32 → Int32 → pH → pR} (hr14 : ∀ (x1 : Int32) (x2 : Int32) (h : pH) (q : Int32 × pH), r14 x1 x2 h = some q → px_G (d + 0 + 1) (pX_RX8, prog_10_method_2_code, 3, (some .boolean)) 14 [some (.inr (.inl 1)), some (.inl x1), some (.inl x2)] [] h q) : ∀ (x1 : Int32) (x2 : Int32) (h : pH) (q : Int32 × pH), tx_add_64 r14 x1 x2 h = some q → px_G (d + 0 + 1) (pX_RX8, prog_10_method_2_code, 3, (some .boolean)) 64 [some (.inr (.inl 1)), some (.inl x1), some (.inl x2)] [] h q := by
  intro x1 x2 h q e
  exact px_blk_ok (d := d + 0) (M := (pX_RX8, prog_10_method_2_code, 3, (some .boolean))) (C := tx_add_orc) (code := tx_add_code) (ld := [14]) (kl := [(14, fun ls st h => px_if (px_fit [11, 1, 1] ls && px_fits [] st) (r14 (px_gi ls 1) (px_gi ls 2) h))]) (tx_add_orc_ok) pX_ok_RX8 tx_add_code_ok (px_k1 (px_ko (ts := [11, 1, 1]) (ss := []) fun ls st h q e => hr14 _ _ _ _ e) px_k0) 45 64 _ _ h q e
set_option maxRecDepth 200000 in
theorem tx_add_14_ok {d : Nat} : ∀ (n : Nat) (x1 : Int32) (x2 : Int32) (h : pH) (q : Int32 × pH), tx_add_14 n x1 x2 h = some q → px_G (d + 0 + 1) (pX_RX8, prog_10_method_2_code, 3, (some .boolean)) 14 [some (.inr (.inl 1)), some (.inl x1), some (.inl x2)] [] h q := by
  intro n
  induction n with
  | zero =>
    intro x1 x2 h q e
    cases e
  | succ n ih =>
    intro x1 x2 h q e
    exact px_blk_ok (d := d + 0) (M := (pX_RX8, prog_10_method_2_code, 3, (some .boolean))) (C := tx_add_orc) (code := tx_add_code) (ld := [64]) (kl := [(64, fun ls st h => px_if (px_fit [11, 1, 1] ls && px_fits [] st) (tx_add_64 (tx_add_14 n) (px_gi ls 1) (px_gi ls 2) h))]) (tx_add_orc_ok) pX_ok_RX8 tx_add_code_ok (px_k1 (px_ko (ts := [11, 1, 1]) (ss := []) fun ls st h q e => tx_add_64_ok ih _ _ _ _ e) px_k0) 45 14 _ _ h q e
set_option maxRecDepth 200000 in
theorem tx_add_ok {d : Nat} {x1 : Int32} {h : pH} {q : Int32 × pH} (e : tx_add x1 h = some q) : px_Con (d + 1) 86 [.inr (.inl 1), .inl x1] h q :=
  px_con (X := pX_RX8) (b := prog_10_method_2_code) (nL := 3) (rt := (some .boolean)) rfl rfl (Nat.le_of_ble_eq_true rfl) rfl (px_blk_ok (d := d + 0) (M := (pX_RX8, prog_10_method_2_code, 3, (some .boolean))) (C := tx_add_orc) (code := tx_add_code) (ld := [14]) (kl := [(14, fun ls st h => px_if (px_fit [11, 1, 1] ls && px_fits [] st) (tx_add_14 px_F (px_gi ls 1) (px_gi ls 2) h))]) (tx_add_orc_ok) pX_ok_RX8 tx_add_code_ok (px_k1 (px_ko (ts := [11, 1, 1]) (ss := []) fun ls st h q e => tx_add_14_ok _ _ _ _ _ e) px_k0) 45 0 _ _ _ q e)
/-! WordsUnsaid$Text.cut(I)Z -/
noncomputable def tx_cut_12 (h : pH) : pR :=
  px_bz (px_c 0) h
noncomputable def tx_cut (x1 : Int32) (h : pH) : pR :=
  if x1 < 0 then
    tx_cut_12 h
  else
    if x1 ≤ (h 1 1) then
      let h1 := px_w h 1 1 x1
      px_bz (px_c 1) h1
    else
      tx_cut_12 h
def tx_cut_code : pCode := [(0, .iload_n 1, 1), (1, .ifCond .lt (11), 3), (4, .iload_n 1, 1), (5, .aload_n 0, 1), (6, .getfield 15, 3), (9, .if_icmp .le (5), 3), (12, .iconst 0, 1), (13, .ireturn, 1), (14, .aload_n 0, 1), (15, .iload_n 1, 1), (16, .putfield 15, 3), (19, .iconst 1, 1), (20, .ireturn, 1)]
set_option maxRecDepth 200000 in
theorem tx_cut_code_ok : px_code prog_10_method_3_code tx_cut_code = true := by decide +kernel
noncomputable def tx_cut_orc : pC := px_orc []
theorem tx_cut_orc_ok {d : Nat} : px_Or (d + 0) (tx_cut_orc) := px_orc_ok (by
  exact px_o0)
set_option maxRecDepth 200000 in
theorem tx_cut_12_ok {d : Nat} : ∀ (h : pH) (q : Int32 × pH), tx_cut_12 h = some q → px_G (d + 0 + 1) (pX_RX8, prog_10_method_3_code, 2, (some .boolean)) 12 [none, none] [] h q := by
  intro h q e
  exact px_blk_ok (d := d + 0) (M := (pX_RX8, prog_10_method_3_code, 2, (some .boolean))) (C := tx_cut_orc) (code := tx_cut_code) (ld := []) (kl := []) (tx_cut_orc_ok) pX_ok_RX8 tx_cut_code_ok (px_k0) 18 12 _ _ h q e
set_option maxRecDepth 200000 in
theorem tx_cut_ok {d : Nat} {x1 : Int32} {h : pH} {q : Int32 × pH} (e : tx_cut x1 h = some q) : px_Con (d + 1) 87 [.inr (.inl 1), .inl x1] h q :=
  px_con (X := pX_RX8) (b := prog_10_method_3_code) (nL := 2) (rt := (some .boolean)) rfl rfl (Nat.le_of_ble_eq_true rfl) rfl (px_blk_ok (d := d + 0) (M := (pX_RX8, prog_10_method_3_code, 2, (some .boolean))) (C := tx_cut_orc) (code := tx_cut_code) (ld := [12]) (kl := [(12, fun ls st h => px_if (px_fit [0, 0] ls && px_fits [] st) (tx_cut_12 h))]) (tx_cut_orc_ok) pX_ok_RX8 tx_cut_code_ok (px_k1 (px_ko (ts := [0, 0]) (ss := []) fun ls st h q e => tx_cut_12_ok _ _ e) px_k0) 18 0 _ _ _ q e)
/-! WordsUnsaid$Text.open(I)V -/
noncomputable def tx_open (x1 : Int32) (h : pH) : pR :=
  let h1 := px_w h 1 2 (px_c 0)
  let h2 := px_w h1 1 3 (px_min (h1 1 1) x1)
  let h3 := px_w h2 1 4 (px_c (-1))
  some (0, h3)
def tx_open_code : pCode := [(0, .aload_n 0, 1), (1, .iconst 0, 1), (2, .putfield 19, 3), (5, .aload_n 0, 1), (6, .aload_n 0, 1), (7, .getfield 15, 3), (10, .iload_n 1, 1), (11, .invokestatic 22, 3), (14, .putfield 28, 3), (17, .aload_n 0, 1), (18, .iconst (-1), 1), (19, .putfield 31, 3), (22, .return_, 1)]
set_option maxRecDepth 200000 in
theorem tx_open_code_ok : px_code prog_10_method_4_code tx_open_code = true := by decide +kernel
noncomputable def tx_open_orc : pC := px_orc []
theorem tx_open_orc_ok {d : Nat} : px_Or (d + 0) (tx_open_orc) := px_orc_ok (by
  exact px_o0)
set_option maxRecDepth 200000 in
theorem tx_open_ok {d : Nat} {x1 : Int32} {h : pH} {q : Int32 × pH} (e : tx_open x1 h = some q) : px_Con (d + 1) 88 [.inr (.inl 1), .inl x1] h q :=
  px_con (X := pX_RX8) (b := prog_10_method_4_code) (nL := 2) (rt := none) rfl rfl (Nat.le_of_ble_eq_true rfl) rfl (px_blk_ok (d := d + 0) (M := (pX_RX8, prog_10_method_4_code, 2, none)) (C := tx_open_orc) (code := tx_open_code) (ld := []) (kl := []) (tx_open_orc_ok) pX_ok_RX8 tx_open_code_ok (px_k0) 18 0 _ _ _ q e)
/-! WordsUnsaid$Text.next()I -/
noncomputable def tx_next_43 (s0 : Int32) (h : pH) : pR :=
  some (s0, h)
noncomputable def tx_next_42 (h : pH) : pR :=
  tx_next_43 (px_c (-1)) h
noncomputable def tx_next (h : pH) : pR :=
  if (h 1 2) < 0 then
    tx_next_42 h
  else
    if (h 1 3) ≤ (h 1 2) then
      tx_next_42 h
    else
      if (nI (px_len 2)) ≤ (h 1 2) then
        tx_next_42 h
      else
        px_if (px_ok 2 2 (h 1 2)) <|
        tx_next_43 (h 2 (h 1 2).toNatClampNeg) h
def tx_next_code : pCode := [(0, .aload_n 0, 1), (1, .getfield 19, 3), (4, .ifCond .lt (38), 3), (7, .aload_n 0, 1), (8, .getfield 19, 3), (11, .aload_n 0, 1), (12, .getfield 28, 3), (15, .if_icmp .ge (27), 3), (18, .aload_n 0, 1), (19, .getfield 19, 3), (22, .aload_n 0, 1), (23, .getfield 11, 3), (26, .arraylength, 1), (27, .if_icmp .ge (15), 3), (30, .aload_n 0, 1), (31, .getfield 11, 3), (34, .aload_n 0, 1), (35, .getfield 19, 3), (38, .caload, 1), (39, .goto (4), 3), (42, .iconst (-1), 1), (43, .ireturn, 1)]
set_option maxRecDepth 200000 in
theorem tx_next_code_ok : px_code prog_10_method_5_code tx_next_code = true := by decide +kernel
noncomputable def tx_next_orc : pC := px_orc []
theorem tx_next_orc_ok {d : Nat} : px_Or (d + 0) (tx_next_orc) := px_orc_ok (by
  exact px_o0)
set_option maxRecDepth 200000 in
theorem tx_next_43_ok {d : Nat} : ∀ (s0 : Int32) (h : pH) (q : Int32 × pH), tx_next_43 s0 h = some q → px_G (d + 0 + 1) (pX_RX8, prog_10_method_5_code, 1, (some .int)) 43 [none] [.inl s0] h q := by
  intro s0 h q e
  exact px_blk_ok (d := d + 0) (M := (pX_RX8, prog_10_method_5_code, 1, (some .int))) (C := tx_next_orc) (code := tx_next_code) (ld := []) (kl := []) (tx_next_orc_ok) pX_ok_RX8 tx_next_code_ok (px_k0) 27 43 _ _ h q e
set_option maxRecDepth 200000 in
theorem tx_next_42_ok {d : Nat} : ∀ (h : pH) (q : Int32 × pH), tx_next_42 h = some q → px_G (d + 0 + 1) (pX_RX8, prog_10_method_5_code, 1, (some .int)) 42 [none] [] h q := by
  intro h q e
  exact px_blk_ok (d := d + 0) (M := (pX_RX8, prog_10_method_5_code, 1, (some .int))) (C := tx_next_orc) (code := tx_next_code) (ld := [43]) (kl := [(43, fun ls st h => px_if (px_fit [0] ls && px_fits [1] st) (tx_next_43 (px_si st 0) h))]) (tx_next_orc_ok) pX_ok_RX8 tx_next_code_ok (px_k1 (px_ko (ts := [0]) (ss := [1]) fun ls st h q e => tx_next_43_ok _ _ _ e) px_k0) 27 42 _ _ h q e
set_option maxRecDepth 200000 in
theorem tx_next_ok {d : Nat} {h : pH} {q : Int32 × pH} (e : tx_next h = some q) : px_Con (d + 1) 89 [.inr (.inl 1)] h q :=
  px_con (X := pX_RX8) (b := prog_10_method_5_code) (nL := 1) (rt := (some .int)) rfl rfl (Nat.le_of_ble_eq_true rfl) rfl (px_blk_ok (d := d + 0) (M := (pX_RX8, prog_10_method_5_code, 1, (some .int))) (C := tx_next_orc) (code := tx_next_code) (ld := [42, 43]) (kl := [(42, fun ls st h => px_if (px_fit [0] ls && px_fits [] st) (tx_next_42 h)), (43, fun ls st h => px_if (px_fit [0] ls && px_fits [1] st) (tx_next_43 (px_si st 0) h))]) (tx_next_orc_ok) pX_ok_RX8 tx_next_code_ok (px_k1 (px_ko (ts := [0]) (ss := []) fun ls st h q e => tx_next_42_ok _ _ e) (px_k1 (px_ko (ts := [0]) (ss := [1]) fun ls st h q e => tx_next_43_ok _ _ _ e) px_k0)) 27 0 _ _ _ q e)
/-! WordsUnsaid$Text.skip()V -/
noncomputable def tx_skip (h : pH) : pR :=
  let h1 := px_w h 1 2 ((h 1 2) + (px_c 1))
  some (0, h1)
def tx_skip_code : pCode := [(0, .aload_n 0, 1), (1, .dup, 1), (2, .getfield 19, 3), (5, .iconst 1, 1), (6, .iadd, 1), (7, .putfield 19, 3), (10, .return_, 1)]
set_option maxRecDepth 200000 in
theorem tx_skip_code_ok : px_code prog_10_method_6_code tx_skip_code = true := by decide +kernel
noncomputable def tx_skip_orc : pC := px_orc []
theorem tx_skip_orc_ok {d : Nat} : px_Or (d + 0) (tx_skip_orc) := px_orc_ok (by
  exact px_o0)
set_option maxRecDepth 200000 in
theorem tx_skip_ok {d : Nat} {h : pH} {q : Int32 × pH} (e : tx_skip h = some q) : px_Con (d + 1) 90 [.inr (.inl 1)] h q :=
  px_con (X := pX_RX8) (b := prog_10_method_6_code) (nL := 1) (rt := none) rfl rfl (Nat.le_of_ble_eq_true rfl) rfl (px_blk_ok (d := d + 0) (M := (pX_RX8, prog_10_method_6_code, 1, none)) (C := tx_skip_orc) (code := tx_skip_code) (ld := []) (kl := []) (tx_skip_orc_ok) pX_ok_RX8 tx_skip_code_ok (px_k0) 12 0 _ _ _ q e)
/-! WordsUnsaid$Text.meet(I)Z -/
noncomputable def tx_meet (x1 : Int32) (h : pH) : pR :=
  px_bind (tx_next h) fun z1 h2 =>
  if z1 = x1 then
    let h3 := px_w h2 1 2 ((h2 1 2) + (px_c 1))
    px_bz (px_c 1) h3
  else
    px_bz (px_c 0) h2
def tx_meet_code : pCode := [(0, .aload_n 0, 1), (1, .invokevirtual 34, 3), (4, .iload_n 1, 1), (5, .if_icmp .eq (5), 3), (8, .iconst 0, 1), (9, .ireturn, 1), (10, .aload_n 0, 1), (11, .dup, 1), (12, .getfield 19, 3), (15, .iconst 1, 1), (16, .iadd, 1), (17, .putfield 19, 3), (20, .iconst 1, 1), (21, .ireturn, 1)]
set_option maxRecDepth 200000 in
theorem tx_meet_code_ok : px_code prog_10_method_7_code tx_meet_code = true := by decide +kernel
noncomputable def tx_meet_orc : pC := px_orc [(89, fun a h => match a with
    | [.inr (.inl 1)] => tx_next h
    | _ => none)]
theorem tx_meet_orc_ok {d : Nat} : px_Or (d + 1) (tx_meet_orc) := px_orc_ok (by
  refine px_o1 (fun a h q e => by
    dsimp only at e
    split at e
    · exact tx_next_ok (d := d + 0) e
    · cases e) ?_
  exact px_o0)
set_option maxRecDepth 200000 in
theorem tx_meet_ok {d : Nat} {x1 : Int32} {h : pH} {q : Int32 × pH} (e : tx_meet x1 h = some q) : px_Con (d + 2) 91 [.inr (.inl 1), .inl x1] h q :=
  px_con (X := pX_RX8) (b := prog_10_method_7_code) (nL := 2) (rt := (some .boolean)) rfl rfl (Nat.le_of_ble_eq_true rfl) rfl (px_blk_ok (d := d + 1) (M := (pX_RX8, prog_10_method_7_code, 2, (some .boolean))) (C := tx_meet_orc) (code := tx_meet_code) (ld := []) (kl := []) (tx_meet_orc_ok) pX_ok_RX8 tx_meet_code_ok (px_k0) 19 0 _ _ _ q e)
/-! WordsUnsaid$Text.refuse()Z -/
noncomputable def tx_refuse (h : pH) : pR :=
  let h1 := px_w h 1 4 (h 1 2)
  px_bz (px_c 0) h1
def tx_refuse_code : pCode := [(0, .aload_n 0, 1), (1, .aload_n 0, 1), (2, .getfield 19, 3), (5, .putfield 31, 3), (8, .iconst 0, 1), (9, .ireturn, 1)]
set_option maxRecDepth 200000 in
theorem tx_refuse_code_ok : px_code prog_10_method_9_code tx_refuse_code = true := by decide +kernel
noncomputable def tx_refuse_orc : pC := px_orc []
theorem tx_refuse_orc_ok {d : Nat} : px_Or (d + 0) (tx_refuse_orc) := px_orc_ok (by
  exact px_o0)
set_option maxRecDepth 200000 in
theorem tx_refuse_ok {d : Nat} {h : pH} {q : Int32 × pH} (e : tx_refuse h = some q) : px_Con (d + 1) 93 [.inr (.inl 1)] h q :=
  px_con (X := pX_RX8) (b := prog_10_method_9_code) (nL := 1) (rt := (some .boolean)) rfl rfl (Nat.le_of_ble_eq_true rfl) rfl (px_blk_ok (d := d + 0) (M := (pX_RX8, prog_10_method_9_code, 1, (some .boolean))) (C := tx_refuse_orc) (code := tx_refuse_code) (ld := []) (kl := []) (tx_refuse_orc_ok) pX_ok_RX8 tx_refuse_code_ok (px_k0) 11 0 _ _ _ q e)
/-! WordsUnsaid$Text.take(I)Z -/
noncomputable def tx_take_20 (s0 : Int32) (h : pH) : pR :=
  px_bz s0 h
noncomputable def tx_take_15 (h : pH) : pR :=
  tx_take_20 (px_c 1) h
noncomputable def tx_take (x1 : Int32) (h : pH) : pR :=
  px_bind (tx_meet x1 h) fun z1 h2 =>
  if z1 = 0 then
    px_bind (tx_refuse h2) fun z3 h4 =>
    if z3 = 0 then
      tx_take_20 (px_c 0) h4
    else
      tx_take_15 h4
  else
    tx_take_15 h2
def tx_take_code : pCode := [(0, .aload_n 0, 1), (1, .iload_n 1, 1), (2, .invokevirtual 38, 3), (5, .ifCond .ne (10), 3), (8, .aload_n 0, 1), (9, .invokevirtual 42, 3), (12, .ifCond .eq (7), 3), (15, .iconst 1, 1), (16, .goto (4), 3), (19, .iconst 0, 1), (20, .ireturn, 1)]
set_option maxRecDepth 200000 in
theorem tx_take_code_ok : px_code prog_10_method_8_code tx_take_code = true := by decide +kernel
noncomputable def tx_take_orc : pC := px_orc [(91, fun a h => match a with
    | [.inr (.inl 1), .inl v1] => tx_meet v1 h
    | _ => none), (93, fun a h => match a with
    | [.inr (.inl 1)] => tx_refuse h
    | _ => none)]
theorem tx_take_orc_ok {d : Nat} : px_Or (d + 2) (tx_take_orc) := px_orc_ok (by
  refine px_o1 (fun a h q e => by
    dsimp only at e
    split at e
    · exact tx_meet_ok (d := d + 0) e
    · cases e) ?_
  refine px_o1 (fun a h q e => by
    dsimp only at e
    split at e
    · exact tx_refuse_ok (d := d + 1) e
    · cases e) ?_
  exact px_o0)
set_option maxRecDepth 200000 in
theorem tx_take_20_ok {d : Nat} : ∀ (s0 : Int32) (h : pH) (q : Int32 × pH), tx_take_20 s0 h = some q → px_G (d + 2 + 1) (pX_RX8, prog_10_method_8_code, 2, (some .boolean)) 20 [none, none] [.inl s0] h q := by
  intro s0 h q e
  exact px_blk_ok (d := d + 2) (M := (pX_RX8, prog_10_method_8_code, 2, (some .boolean))) (C := tx_take_orc) (code := tx_take_code) (ld := []) (kl := []) (tx_take_orc_ok) pX_ok_RX8 tx_take_code_ok (px_k0) 16 20 _ _ h q e
set_option maxRecDepth 200000 in
theorem tx_take_15_ok {d : Nat} : ∀ (h : pH) (q : Int32 × pH), tx_take_15 h = some q → px_G (d + 2 + 1) (pX_RX8, prog_10_method_8_code, 2, (some .boolean)) 15 [none, none] [] h q := by
  intro h q e
  exact px_blk_ok (d := d + 2) (M := (pX_RX8, prog_10_method_8_code, 2, (some .boolean))) (C := tx_take_orc) (code := tx_take_code) (ld := [20]) (kl := [(20, fun ls st h => px_if (px_fit [0, 0] ls && px_fits [1] st) (tx_take_20 (px_si st 0) h))]) (tx_take_orc_ok) pX_ok_RX8 tx_take_code_ok (px_k1 (px_ko (ts := [0, 0]) (ss := [1]) fun ls st h q e => tx_take_20_ok _ _ _ e) px_k0) 16 15 _ _ h q e
set_option maxRecDepth 200000 in
theorem tx_take_ok {d : Nat} {x1 : Int32} {h : pH} {q : Int32 × pH} (e : tx_take x1 h = some q) : px_Con (d + 3) 92 [.inr (.inl 1), .inl x1] h q :=
  px_con (X := pX_RX8) (b := prog_10_method_8_code) (nL := 2) (rt := (some .boolean)) rfl rfl (Nat.le_of_ble_eq_true rfl) rfl (px_blk_ok (d := d + 2) (M := (pX_RX8, prog_10_method_8_code, 2, (some .boolean))) (C := tx_take_orc) (code := tx_take_code) (ld := [15, 20]) (kl := [(15, fun ls st h => px_if (px_fit [0, 0] ls && px_fits [] st) (tx_take_15 h)), (20, fun ls st h => px_if (px_fit [0, 0] ls && px_fits [1] st) (tx_take_20 (px_si st 0) h))]) (tx_take_orc_ok) pX_ok_RX8 tx_take_code_ok (px_k1 (px_ko (ts := [0, 0]) (ss := []) fun ls st h q e => tx_take_15_ok _ _ e) (px_k1 (px_ko (ts := [0, 0]) (ss := [1]) fun ls st h q e => tx_take_20_ok _ _ _ e) px_k0)) 16 0 _ _ _ q e)
/-! WordsUnsaid$Text.refuseLast()Z -/
noncomputable def tx_refuseLast (h : pH) : pR :=
  let h1 := px_w h 1 4 ((h 1 2) - (px_c 1))
  px_bz (px_c 0) h1
def tx_refuseLast_code : pCode := [(0, .aload_n 0, 1), (1, .aload_n 0, 1), (2, .getfield 19, 3), (5, .iconst 1, 1), (6, .isub, 1), (7, .putfield 31, 3), (10, .iconst 0, 1), (11, .ireturn, 1)]
set_option maxRecDepth 200000 in
theorem tx_refuseLast_code_ok : px_code prog_10_method_10_code tx_refuseLast_code = true := by decide +kernel
noncomputable def tx_refuseLast_orc : pC := px_orc []
theorem tx_refuseLast_orc_ok {d : Nat} : px_Or (d + 0) (tx_refuseLast_orc) := px_orc_ok (by
  exact px_o0)
set_option maxRecDepth 200000 in
theorem tx_refuseLast_ok {d : Nat} {h : pH} {q : Int32 × pH} (e : tx_refuseLast h = some q) : px_Con (d + 1) 94 [.inr (.inl 1)] h q :=
  px_con (X := pX_RX8) (b := prog_10_method_10_code) (nL := 1) (rt := (some .boolean)) rfl rfl (Nat.le_of_ble_eq_true rfl) rfl (px_blk_ok (d := d + 0) (M := (pX_RX8, prog_10_method_10_code, 1, (some .boolean))) (C := tx_refuseLast_orc) (code := tx_refuseLast_code) (ld := []) (kl := []) (tx_refuseLast_orc_ok) pX_ok_RX8 tx_refuseLast_code_ok (px_k0) 13 0 _ _ _ q e)
/-! WordsUnsaid$Text.answer()I -/
noncomputable def tx_answer (h : pH) : pR :=
  some ((px_c (-1)) - (h 1 4), h)
def tx_answer_code : pCode := [(0, .iconst (-1), 1), (1, .aload_n 0, 1), (2, .getfield 31, 3), (5, .isub, 1), (6, .ireturn, 1)]
set_option maxRecDepth 200000 in
theorem tx_answer_code_ok : px_code prog_10_method_11_code tx_answer_code = true := by decide +kernel
noncomputable def tx_answer_orc : pC := px_orc []
theorem tx_answer_orc_ok {d : Nat} : px_Or (d + 0) (tx_answer_orc) := px_orc_ok (by
  exact px_o0)
set_option maxRecDepth 200000 in
theorem tx_answer_ok {d : Nat} {h : pH} {q : Int32 × pH} (e : tx_answer h = some q) : px_Con (d + 1) 95 [.inr (.inl 1)] h q :=
  px_con (X := pX_RX8) (b := prog_10_method_11_code) (nL := 1) (rt := (some .int)) rfl rfl (Nat.le_of_ble_eq_true rfl) rfl (px_blk_ok (d := d + 0) (M := (pX_RX8, prog_10_method_11_code, 1, (some .int))) (C := tx_answer_orc) (code := tx_answer_code) (ld := []) (kl := []) (tx_answer_orc_ok) pX_ok_RX8 tx_answer_code_ok (px_k0) 10 0 _ _ _ q e)
/-! WordsUnsaid$Text.closes()Z -/
noncomputable def tx_closes_23 (s0 : Int32) (h : pH) : pR :=
  px_bz s0 h
noncomputable def tx_closes_18 (h : pH) : pR :=
  tx_closes_23 (px_c 1) h
noncomputable def tx_closes (h : pH) : pR :=
  if (h 1 2) = (h 1 1) then
    tx_closes_18 h
  else
    px_bind (tx_refuse h) fun z1 h2 =>
    if z1 = 0 then
      tx_closes_23 (px_c 0) h2
    else
      tx_closes_18 h2
def tx_closes_code : pCode := [(0, .aload_n 0, 1), (1, .getfield 19, 3), (4, .aload_n 0, 1), (5, .getfield 15, 3), (8, .if_icmp .eq (10), 3), (11, .aload_n 0, 1), (12, .invokevirtual 42, 3), (15, .ifCond .eq (7), 3), (18, .iconst 1, 1), (19, .goto (4), 3), (22, .iconst 0, 1), (23, .ireturn, 1)]
set_option maxRecDepth 200000 in
theorem tx_closes_code_ok : px_code prog_10_method_12_code tx_closes_code = true := by decide +kernel
noncomputable def tx_closes_orc : pC := px_orc [(93, fun a h => match a with
    | [.inr (.inl 1)] => tx_refuse h
    | _ => none)]
theorem tx_closes_orc_ok {d : Nat} : px_Or (d + 1) (tx_closes_orc) := px_orc_ok (by
  refine px_o1 (fun a h q e => by
    dsimp only at e
    split at e
    · exact tx_refuse_ok (d := d + 0) e
    · cases e) ?_
  exact px_o0)
set_option maxRecDepth 200000 in
theorem tx_closes_23_ok {d : Nat} : ∀ (s0 : Int32) (h : pH) (q : Int32 × pH), tx_closes_23 s0 h = some q → px_G (d + 1 + 1) (pX_RX8, prog_10_method_12_code, 1, (some .boolean)) 23 [none] [.inl s0] h q := by
  intro s0 h q e
  exact px_blk_ok (d := d + 1) (M := (pX_RX8, prog_10_method_12_code, 1, (some .boolean))) (C := tx_closes_orc) (code := tx_closes_code) (ld := []) (kl := []) (tx_closes_orc_ok) pX_ok_RX8 tx_closes_code_ok (px_k0) 17 23 _ _ h q e
set_option maxRecDepth 200000 in
theorem tx_closes_18_ok {d : Nat} : ∀ (h : pH) (q : Int32 × pH), tx_closes_18 h = some q → px_G (d + 1 + 1) (pX_RX8, prog_10_method_12_code, 1, (some .boolean)) 18 [none] [] h q := by
  intro h q e
  exact px_blk_ok (d := d + 1) (M := (pX_RX8, prog_10_method_12_code, 1, (some .boolean))) (C := tx_closes_orc) (code := tx_closes_code) (ld := [23]) (kl := [(23, fun ls st h => px_if (px_fit [0] ls && px_fits [1] st) (tx_closes_23 (px_si st 0) h))]) (tx_closes_orc_ok) pX_ok_RX8 tx_closes_code_ok (px_k1 (px_ko (ts := [0]) (ss := [1]) fun ls st h q e => tx_closes_23_ok _ _ _ e) px_k0) 17 18 _ _ h q e
set_option maxRecDepth 200000 in
theorem tx_closes_ok {d : Nat} {h : pH} {q : Int32 × pH} (e : tx_closes h = some q) : px_Con (d + 2) 96 [.inr (.inl 1)] h q :=
  px_con (X := pX_RX8) (b := prog_10_method_12_code) (nL := 1) (rt := (some .boolean)) rfl rfl (Nat.le_of_ble_eq_true rfl) rfl (px_blk_ok (d := d + 1) (M := (pX_RX8, prog_10_method_12_code, 1, (some .boolean))) (C := tx_closes_orc) (code := tx_closes_code) (ld := [18, 23]) (kl := [(18, fun ls st h => px_if (px_fit [0] ls && px_fits [] st) (tx_closes_18 h)), (23, fun ls st h => px_if (px_fit [0] ls && px_fits [1] st) (tx_closes_23 (px_si st 0) h))]) (tx_closes_orc_ok) pX_ok_RX8 tx_closes_code_ok (px_k1 (px_ko (ts := [0]) (ss := []) fun ls st h q e => tx_closes_18_ok _ _ e) (px_k1 (px_ko (ts := [0]) (ss := [1]) fun ls st h q e => tx_closes_23_ok _ _ _ e) px_k0)) 17 0 _ _ _ q e)
/-! WordsUnsaid$Text.isDigit()Z -/
noncomputable def tx_isDigit_23 (s0 : Int32) (h : pH) : pR :=
  px_bz s0 h
noncomputable def tx_isDigit_22 (h : pH) : pR :=
  tx_isDigit_23 (px_c 0) h
noncomputable def tx_isDigit (h : pH) : pR :=
  px_bind (tx_next h) fun z1 h2 =>
  if z1 < (px_c 48) then
    tx_isDigit_22 h2
  else
    px_bind (tx_next h2) fun z3 h4 =>
    if (px_c 57) < z3 then
      tx_isDigit_22 h4
    else
      tx_isDigit_23 (px_c 1) h4
def tx_isDigit_code : pCode := [(0, .aload_n 0, 1), (1, .invokevirtual 34, 3), (4, .bipush (48), 2), (6, .if_icmp .lt (16), 3), (9, .aload_n 0, 1), (10, .invokevirtual 34, 3), (13, .bipush (57), 2), (15, .if_icmp .gt (7), 3), (18, .iconst 1, 1), (19, .goto (4), 3), (22, .iconst 0, 1), (23, .ireturn, 1)]
set_option maxRecDepth 200000 in
theorem tx_isDigit_code_ok : px_code prog_10_method_13_code tx_isDigit_code = true := by decide +kernel
noncomputable def tx_isDigit_orc : pC := px_orc [(89, fun a h => match a with
    | [.inr (.inl 1)] => tx_next h
    | _ => none)]
theorem tx_isDigit_orc_ok {d : Nat} : px_Or (d + 1) (tx_isDigit_orc) := px_orc_ok (by
  refine px_o1 (fun a h q e => by
    dsimp only at e
    split at e
    · exact tx_next_ok (d := d + 0) e
    · cases e) ?_
  exact px_o0)
set_option maxRecDepth 200000 in
theorem tx_isDigit_23_ok {d : Nat} : ∀ (s0 : Int32) (h : pH) (q : Int32 × pH), tx_isDigit_23 s0 h = some q → px_G (d + 1 + 1) (pX_RX8, prog_10_method_13_code, 1, (some .boolean)) 23 [none] [.inl s0] h q := by
  intro s0 h q e
  exact px_blk_ok (d := d + 1) (M := (pX_RX8, prog_10_method_13_code, 1, (some .boolean))) (C := tx_isDigit_orc) (code := tx_isDigit_code) (ld := []) (kl := []) (tx_isDigit_orc_ok) pX_ok_RX8 tx_isDigit_code_ok (px_k0) 17 23 _ _ h q e
set_option maxRecDepth 200000 in
theorem tx_isDigit_22_ok {d : Nat} : ∀ (h : pH) (q : Int32 × pH), tx_isDigit_22 h = some q → px_G (d + 1 + 1) (pX_RX8, prog_10_method_13_code, 1, (some .boolean)) 22 [none] [] h q := by
  intro h q e
  exact px_blk_ok (d := d + 1) (M := (pX_RX8, prog_10_method_13_code, 1, (some .boolean))) (C := tx_isDigit_orc) (code := tx_isDigit_code) (ld := [23]) (kl := [(23, fun ls st h => px_if (px_fit [0] ls && px_fits [1] st) (tx_isDigit_23 (px_si st 0) h))]) (tx_isDigit_orc_ok) pX_ok_RX8 tx_isDigit_code_ok (px_k1 (px_ko (ts := [0]) (ss := [1]) fun ls st h q e => tx_isDigit_23_ok _ _ _ e) px_k0) 17 22 _ _ h q e
set_option maxRecDepth 200000 in
theorem tx_isDigit_ok {d : Nat} {h : pH} {q : Int32 × pH} (e : tx_isDigit h = some q) : px_Con (d + 2) 97 [.inr (.inl 1)] h q :=
  px_con (X := pX_RX8) (b := prog_10_method_13_code) (nL := 1) (rt := (some .boolean)) rfl rfl (Nat.le_of_ble_eq_true rfl) rfl (px_blk_ok (d := d + 1) (M := (pX_RX8, prog_10_method_13_code, 1, (some .boolean))) (C := tx_isDigit_orc) (code := tx_isDigit_code) (ld := [22, 23]) (kl := [(22, fun ls st h => px_if (px_fit [0] ls && px_fits [] st) (tx_isDigit_22 h)), (23, fun ls st h => px_if (px_fit [0] ls && px_fits [1] st) (tx_isDigit_23 (px_si st 0) h))]) (tx_isDigit_orc_ok) pX_ok_RX8 tx_isDigit_code_ok (px_k1 (px_ko (ts := [0]) (ss := []) fun ls st h q e => tx_isDigit_22_ok _ _ e) (px_k1 (px_ko (ts := [0]) (ss := [1]) fun ls st h q e => tx_isDigit_23_ok _ _ _ e) px_k0)) 17 0 _ _ _ q e)
/-! WordsUnsaid$Text.number(III)I -/
noncomputable def tx_number_79 (h : pH) : pR :=
  px_bind (tx_refuseLast h) fun z1 h2 =>
  some (px_c (-1), h2)
noncomputable def tx_number_54 (x2 : Int32) (x3 : Int32) (x4 : Int32) (h : pH) : pR :=
  if x4 = (px_c (-1)) then
    px_bind (tx_refuse h) fun z1 h2 =>
    some (px_c (-1), h2)
  else
    if x4 < x2 then
      tx_number_79 h
    else
      if x4 ≤ x3 then
        some (x4, h)
      else
        tx_number_79 h
noncomputable def tx_number_6 : Nat → Int32 → Int32 → Int32 → Int32 → Int32 → pH → pR
  | 0, _, _, _, _, _, _ => none
  | n + 1, x1, x2, x3, x4, x5, h =>
    if x1 ≤ x5 then
      tx_number_54 x2 x3 x4 h
    else
      px_bind (tx_isDigit h) fun z1 h2 =>
      if z1 = 0 then
        tx_number_54 x2 x3 x4 h2
      else
        px_bind (tx_next h2) fun z3 h4 =>
        let y4_5 := (((px_max (px_c 0) x4) * (px_c 10)) + z3) - (px_c 48)
        let h6 := px_w h4 1 2 ((h4 1 2) + (px_c 1))
        tx_number_6 n x1 x2 x3 y4_5 (x5 + px_c 1) h6
noncomputable def tx_number (x1 : Int32) (x2 : Int32) (x3 : Int32) (h : pH) : pR :=
  tx_number_6 px_F x1 x2 x3 (px_c (-1)) (px_c 0) h
def tx_number_code : pCode := [(0, .iconst (-1), 1), (1, .istore 4, 2), (3, .iconst 0, 1), (4, .istore 5, 2), (6, .iload 5, 2), (8, .iload_n 1, 1), (9, .if_icmp .ge (45), 3), (12, .aload_n 0, 1), (13, .invokevirtual 46, 3), (16, .ifCond .eq (38), 3), (19, .iconst 0, 1), (20, .iload 4, 2), (22, .invokestatic 49, 3), (25, .bipush (10), 2), (27, .imul, 1), (28, .aload_n 0, 1), (29, .invokevirtual 34, 3), (32, .iadd, 1), (33, .bipush (48), 2), (35, .isub, 1), (36, .istore 4, 2), (38, .aload_n 0, 1), (39, .dup, 1), (40, .getfield 19, 3), (43, .iconst 1, 1), (44, .iadd, 1), (45, .putfield 19, 3), (48, .iinc 5 (1), 3), (51, .goto (-45), 3), (54, .iload 4, 2), (56, .iconst (-1), 1), (57, .if_icmp .ne (10), 3), (60, .aload_n 0, 1), (61, .invokevirtual 42, 3), (64, .pop, 1), (65, .iconst (-1), 1), (66, .ireturn, 1), (67, .iload 4, 2), (69, .iload_n 2, 1), (70, .if_icmp .lt (9), 3), (73, .iload 4, 2), (75, .iload_n 3, 1), (76, .if_icmp .le (10), 3), (79, .aload_n 0, 1), (80, .invokevirtual 52, 3), (83, .pop, 1), (84, .iconst (-1), 1), (85, .ireturn, 1), (86, .iload 4, 2), (88, .ireturn, 1)]
set_option maxRecDepth 200000 in
theorem tx_number_code_ok : px_code prog_10_method_14_code tx_number_code = true := by decide +kernel
noncomputable def tx_number_orc : pC := px_orc [(94, fun a h => match a with
    | [.inr (.inl 1)] => tx_refuseLast h
    | _ => none), (93, fun a h => match a with
    | [.inr (.inl 1)] => tx_refuse h
    | _ => none), (97, fun a h => match a with
    | [.inr (.inl 1)] => tx_isDigit h
    | _ => none), (89, fun a h => match a with
    | [.inr (.inl 1)] => tx_next h
    | _ => none)]
theorem tx_number_orc_ok {d : Nat} : px_Or (d + 2) (tx_number_orc) := px_orc_ok (by
  refine px_o1 (fun a h q e => by
    dsimp only at e
    split at e
    · exact tx_refuseLast_ok (d := d + 1) e
    · cases e) ?_
  refine px_o1 (fun a h q e => by
    dsimp only at e
    split at e
    · exact tx_refuse_ok (d := d + 1) e
    · cases e) ?_
  refine px_o1 (fun a h q e => by
    dsimp only at e
    split at e
    · exact tx_isDigit_ok (d := d + 0) e
    · cases e) ?_
  refine px_o1 (fun a h q e => by
    dsimp only at e
    split at e
    · exact tx_next_ok (d := d + 1) e
    · cases e) ?_
  exact px_o0)
set_option maxRecDepth 200000 in
theorem tx_number_79_ok {d : Nat} : ∀ (h : pH) (q : Int32 × pH), tx_number_79 h = some q → px_G (d + 2 + 1) (pX_RX8, prog_10_method_14_code, 6, (some .int)) 79 [some (.inr (.inl 1)), none, none, none, none, none] [] h q := by
  intro h q e
  exact px_blk_ok (d := d + 2) (M := (pX_RX8, prog_10_method_14_code, 6, (some .int))) (C := tx_number_orc) (code := tx_number_code) (ld := []) (kl := []) (tx_number_orc_ok) pX_ok_RX8 tx_number_code_ok (px_k0) 55 79 _ _ h q e
set_option maxRecDepth 200000 in
theorem tx_number_54_ok {d : Nat} : ∀ (x2 : Int32) (x3 : Int32) (x4 : Int32) (h : pH) (q : Int32 × pH), tx_number_54 x2 x3 x4 h = some q → px_G (d + 2 + 1) (pX_RX8, prog_10_method_14_code, 6, (some .int)) 54 [some (.inr (.inl 1)), none, some (.inl x2), some (.inl x3), some (.inl x4), none] [] h q := by
  intro x2 x3 x4 h q e
  exact px_blk_ok (d := d + 2) (M := (pX_RX8, prog_10_method_14_code, 6, (some .int))) (C := tx_number_orc) (code := tx_number_code) (ld := [79]) (kl := [(79, fun ls st h => px_if (px_fit [11, 0, 0, 0, 0, 0] ls && px_fits [] st) (tx_number_79 h))]) (tx_number_orc_ok) pX_ok_RX8 tx_number_code_ok (px_k1 (px_ko (ts := [11, 0, 0, 0, 0, 0]) (ss := []) fun ls st h q e => tx_number_79_ok _ _ e) px_k0) 55 54 _ _ h q e
set_option maxRecDepth 200000 in
theorem tx_number_6_ok {d : Nat} : ∀ (n : Nat) (x1 : Int32) (x2 : Int32) (x3 : Int32) (x4 : Int32) (x5 : Int32) (h : pH) (q : Int32 × pH), tx_number_6 n x1 x2 x3 x4 x5 h = some q → px_G (d + 2 + 1) (pX_RX8, prog_10_method_14_code, 6, (some .int)) 6 [some (.inr (.inl 1)), some (.inl x1), some (.inl x2), some (.inl x3), some (.inl x4), some (.inl x5)] [] h q := by
  intro n
  induction n with
  | zero =>
    intro x1 x2 x3 x4 x5 h q e
    cases e
  | succ n ih =>
    intro x1 x2 x3 x4 x5 h q e
    exact px_blk_ok (d := d + 2) (M := (pX_RX8, prog_10_method_14_code, 6, (some .int))) (C := tx_number_orc) (code := tx_number_code) (ld := [6, 54]) (kl := [(6, fun ls st h => px_if (px_fit [11, 1, 1, 1, 1, 1] ls && px_fits [] st) (tx_number_6 n (px_gi ls 1) (px_gi ls 2) (px_gi ls 3) (px_gi ls 4) (px_gi ls 5) h)), (54, fun ls st h => px_if (px_fit [11, 0, 1, 1, 1, 0] ls && px_fits [] st) (tx_number_54 (px_gi ls 2) (px_gi ls 3) (px_gi ls 4) h))]) (tx_number_orc_ok) pX_ok_RX8 tx_number_code_ok (px_k1 (px_ko (ts := [11, 1, 1, 1, 1, 1]) (ss := []) fun ls st h q e => ih _ _ _ _ _ _ _ e) (px_k1 (px_ko (ts := [11, 0, 1, 1, 1, 0]) (ss := []) fun ls st h q e => tx_number_54_ok _ _ _ _ _ e) px_k0)) 55 6 _ _ h q e
set_option maxRecDepth 200000 in
theorem tx_number_ok {d : Nat} {x1 : Int32} {x2 : Int32} {x3 : Int32} {h : pH} {q : Int32 × pH} (e : tx_number x1 x2 x3 h = some q) : px_Con (d + 3) 98 [.inr (.inl 1), .inl x1, .inl x2, .inl x3] h q :=
  px_con (X := pX_RX8) (b := prog_10_method_14_code) (nL := 6) (rt := (some .int)) rfl rfl (Nat.le_of_ble_eq_true rfl) rfl (px_blk_ok (d := d + 2) (M := (pX_RX8, prog_10_method_14_code, 6, (some .int))) (C := tx_number_orc) (code := tx_number_code) (ld := [6]) (kl := [(6, fun ls st h => px_if (px_fit [11, 1, 1, 1, 1, 1] ls && px_fits [] st) (tx_number_6 px_F (px_gi ls 1) (px_gi ls 2) (px_gi ls 3) (px_gi ls 4) (px_gi ls 5) h))]) (tx_number_orc_ok) pX_ok_RX8 tx_number_code_ok (px_k1 (px_ko (ts := [11, 1, 1, 1, 1, 1]) (ss := []) fun ls st h q e => tx_number_6_ok _ _ _ _ _ _ _ _ e) px_k0) 55 0 _ _ _ q e)
/-! WordsUnsaid$Text.letter(II)I -/
noncomputable def tx_letter_16 (h : pH) : pR :=
  px_bind (tx_refuse h) fun z1 h2 =>
  some (px_c (-1), h2)
noncomputable def tx_letter (x1 : Int32) (x2 : Int32) (h : pH) : pR :=
  px_bind (tx_next h) fun z1 h2 =>
  let y3_3 := z1 - x1
  if y3_3 < 0 then
    tx_letter_16 h2
  else
    if y3_3 < x2 then
      let h4 := px_w h2 1 2 ((h2 1 2) + (px_c 1))
      some (y3_3, h4)
    else
      tx_letter_16 h2
def tx_letter_code : pCode := [(0, .aload_n 0, 1), (1, .invokevirtual 34, 3), (4, .iload_n 1, 1), (5, .isub, 1), (6, .istore_n 3, 1), (7, .iload_n 3, 1), (8, .ifCond .lt (8), 3), (11, .iload_n 3, 1), (12, .iload_n 2, 1), (13, .if_icmp .lt (10), 3), (16, .aload_n 0, 1), (17, .invokevirtual 42, 3), (20, .pop, 1), (21, .iconst (-1), 1), (22, .ireturn, 1), (23, .aload_n 0, 1), (24, .dup, 1), (25, .getfield 19, 3), (28, .iconst 1, 1), (29, .iadd, 1), (30, .putfield 19, 3), (33, .iload_n 3, 1), (34, .ireturn, 1)]
set_option maxRecDepth 200000 in
theorem tx_letter_code_ok : px_code prog_10_method_15_code tx_letter_code = true := by decide +kernel
noncomputable def tx_letter_orc : pC := px_orc [(93, fun a h => match a with
    | [.inr (.inl 1)] => tx_refuse h
    | _ => none), (89, fun a h => match a with
    | [.inr (.inl 1)] => tx_next h
    | _ => none)]
theorem tx_letter_orc_ok {d : Nat} : px_Or (d + 1) (tx_letter_orc) := px_orc_ok (by
  refine px_o1 (fun a h q e => by
    dsimp only at e
    split at e
    · exact tx_refuse_ok (d := d + 0) e
    · cases e) ?_
  refine px_o1 (fun a h q e => by
    dsimp only at e
    split at e
    · exact tx_next_ok (d := d + 0) e
    · cases e) ?_
  exact px_o0)
set_option maxRecDepth 200000 in
theorem tx_letter_16_ok {d : Nat} : ∀ (h : pH) (q : Int32 × pH), tx_letter_16 h = some q → px_G (d + 1 + 1) (pX_RX8, prog_10_method_15_code, 4, (some .int)) 16 [some (.inr (.inl 1)), none, none, none] [] h q := by
  intro h q e
  exact px_blk_ok (d := d + 1) (M := (pX_RX8, prog_10_method_15_code, 4, (some .int))) (C := tx_letter_orc) (code := tx_letter_code) (ld := []) (kl := []) (tx_letter_orc_ok) pX_ok_RX8 tx_letter_code_ok (px_k0) 28 16 _ _ h q e
set_option maxRecDepth 200000 in
theorem tx_letter_ok {d : Nat} {x1 : Int32} {x2 : Int32} {h : pH} {q : Int32 × pH} (e : tx_letter x1 x2 h = some q) : px_Con (d + 2) 99 [.inr (.inl 1), .inl x1, .inl x2] h q :=
  px_con (X := pX_RX8) (b := prog_10_method_15_code) (nL := 4) (rt := (some .int)) rfl rfl (Nat.le_of_ble_eq_true rfl) rfl (px_blk_ok (d := d + 1) (M := (pX_RX8, prog_10_method_15_code, 4, (some .int))) (C := tx_letter_orc) (code := tx_letter_code) (ld := [16]) (kl := [(16, fun ls st h => px_if (px_fit [11, 0, 0, 0] ls && px_fits [] st) (tx_letter_16 h))]) (tx_letter_orc_ok) pX_ok_RX8 tx_letter_code_ok (px_k1 (px_ko (ts := [11, 0, 0, 0]) (ss := []) fun ls st h q e => tx_letter_16_ok _ _ e) px_k0) 28 0 _ _ _ q e)
