/-! the reference, first half -/
/-! WordsUnsaidModel.thrown()I -/
noncomputable def mo_thrown (h : pH) : pR :=
  some (h 51 14, h)
def mo_thrown_code : pCode := [(0, .aload_n 0, 1), (1, .getfield 106, 3), (4, .ireturn, 1)]
set_option maxRecDepth 200000 in
theorem mo_thrown_code_ok : px_code prog_13_method_2_code mo_thrown_code = true := by decide +kernel
noncomputable def mo_thrown_orc : pC := px_orc []
theorem mo_thrown_orc_ok {d : Nat} : px_Or (d + 0) (mo_thrown_orc) := px_orc_ok (by
  exact px_o0)
set_option maxRecDepth 200000 in
theorem mo_thrown_ok {d : Nat} {h : pH} {q : Int32 × pH} (e : mo_thrown h = some q) : px_Con (d + 1) 174 [.inr (.inl 51)] h q :=
  px_con (X := pX_RX11) (b := prog_13_method_2_code) (nL := 1) (rt := (some .int)) rfl rfl (Nat.le_of_ble_eq_true rfl) rfl (px_blk_ok (d := d + 0) (M := (pX_RX11, prog_13_method_2_code, 1, (some .int))) (C := mo_thrown_orc) (code := mo_thrown_code) (ld := []) (kl := []) (mo_thrown_orc_ok) pX_ok_RX11 mo_thrown_code_ok (px_k0) 8 0 _ _ _ q e)
/-! WordsUnsaidModel.in(III)Z -/
noncomputable def mo_in_15 (s0 : Int32) (h : pH) : pR :=
  px_bz s0 h
noncomputable def mo_in_14 (h : pH) : pR :=
  mo_in_15 (px_c 0) h
noncomputable def mo_in (x0 : Int32) (x1 : Int32) (x2 : Int32) (h : pH) : pR :=
  if x0 < x1 then
    mo_in_14 h
  else
    if x2 < x0 then
      mo_in_14 h
    else
      mo_in_15 (px_c 1) h
def mo_in_code : pCode := [(0, .iload_n 0, 1), (1, .iload_n 1, 1), (2, .if_icmp .lt (12), 3), (5, .iload_n 0, 1), (6, .iload_n 2, 1), (7, .if_icmp .gt (7), 3), (10, .iconst 1, 1), (11, .goto (4), 3), (14, .iconst 0, 1), (15, .ireturn, 1)]
set_option maxRecDepth 200000 in
theorem mo_in_code_ok : px_code prog_13_method_3_code mo_in_code = true := by decide +kernel
noncomputable def mo_in_orc : pC := px_orc []
theorem mo_in_orc_ok {d : Nat} : px_Or (d + 0) (mo_in_orc) := px_orc_ok (by
  exact px_o0)
set_option maxRecDepth 200000 in
theorem mo_in_15_ok {d : Nat} : ∀ (s0 : Int32) (h : pH) (q : Int32 × pH), mo_in_15 s0 h = some q → px_G (d + 0 + 1) (pX_RX11, prog_13_method_3_code, 3, (some .boolean)) 15 [none, none, none] [.inl s0] h q := by
  intro s0 h q e
  exact px_blk_ok (d := d + 0) (M := (pX_RX11, prog_13_method_3_code, 3, (some .boolean))) (C := mo_in_orc) (code := mo_in_code) (ld := []) (kl := []) (mo_in_orc_ok) pX_ok_RX11 mo_in_code_ok (px_k0) 15 15 _ _ h q e
set_option maxRecDepth 200000 in
theorem mo_in_14_ok {d : Nat} : ∀ (h : pH) (q : Int32 × pH), mo_in_14 h = some q → px_G (d + 0 + 1) (pX_RX11, prog_13_method_3_code, 3, (some .boolean)) 14 [none, none, none] [] h q := by
  intro h q e
  exact px_blk_ok (d := d + 0) (M := (pX_RX11, prog_13_method_3_code, 3, (some .boolean))) (C := mo_in_orc) (code := mo_in_code) (ld := [15]) (kl := [(15, fun ls st h => px_if (px_fit [0, 0, 0] ls && px_fits [1] st) (mo_in_15 (px_si st 0) h))]) (mo_in_orc_ok) pX_ok_RX11 mo_in_code_ok (px_k1 (px_ko (ts := [0, 0, 0]) (ss := [1]) fun ls st h q e => mo_in_15_ok _ _ _ e) px_k0) 15 14 _ _ h q e
set_option maxRecDepth 200000 in
theorem mo_in_ok {d : Nat} {x0 : Int32} {x1 : Int32} {x2 : Int32} {h : pH} {q : Int32 × pH} (e : mo_in x0 x1 x2 h = some q) : px_Con (d + 1) 175 [.inl x0, .inl x1, .inl x2] h q :=
  px_con (X := pX_RX11) (b := prog_13_method_3_code) (nL := 3) (rt := (some .boolean)) rfl rfl (Nat.le_of_ble_eq_true rfl) rfl (px_blk_ok (d := d + 0) (M := (pX_RX11, prog_13_method_3_code, 3, (some .boolean))) (C := mo_in_orc) (code := mo_in_code) (ld := [14, 15]) (kl := [(14, fun ls st h => px_if (px_fit [0, 0, 0] ls && px_fits [] st) (mo_in_14 h)), (15, fun ls st h => px_if (px_fit [0, 0, 0] ls && px_fits [1] st) (mo_in_15 (px_si st 0) h))]) (mo_in_orc_ok) pX_ok_RX11 mo_in_code_ok (px_k1 (px_ko (ts := [0, 0, 0]) (ss := []) fun ls st h q e => mo_in_14_ok _ _ e) (px_k1 (px_ko (ts := [0, 0, 0]) (ss := [1]) fun ls st h q e => mo_in_15_ok _ _ _ e) px_k0)) 15 0 _ _ _ q e)
/-! WordsUnsaidModel.has(II)Z -/
noncomputable def mo_has_14 (s0 : Int32) (h : pH) : pR :=
  px_bz s0 h
noncomputable def mo_has (x0 : Int32) (x1 : Int32) (h : pH) : pR :=
  if ((x0 >>> (x1 &&& 31)) &&& (px_c 1)) = (px_c 1) then
    mo_has_14 (px_c 1) h
  else
    mo_has_14 (px_c 0) h
def mo_has_code : pCode := [(0, .iload_n 0, 1), (1, .iload_n 1, 1), (2, .ishr, 1), (3, .iconst 1, 1), (4, .iand, 1), (5, .iconst 1, 1), (6, .if_icmp .ne (7), 3), (9, .iconst 1, 1), (10, .goto (4), 3), (13, .iconst 0, 1), (14, .ireturn, 1)]
set_option maxRecDepth 200000 in
theorem mo_has_code_ok : px_code prog_13_method_4_code mo_has_code = true := by decide +kernel
noncomputable def mo_has_orc : pC := px_orc []
theorem mo_has_orc_ok {d : Nat} : px_Or (d + 0) (mo_has_orc) := px_orc_ok (by
  exact px_o0)
set_option maxRecDepth 200000 in
theorem mo_has_14_ok {d : Nat} : ∀ (s0 : Int32) (h : pH) (q : Int32 × pH), mo_has_14 s0 h = some q → px_G (d + 0 + 1) (pX_RX11, prog_13_method_4_code, 2, (some .boolean)) 14 [none, none] [.inl s0] h q := by
  intro s0 h q e
  exact px_blk_ok (d := d + 0) (M := (pX_RX11, prog_13_method_4_code, 2, (some .boolean))) (C := mo_has_orc) (code := mo_has_code) (ld := []) (kl := []) (mo_has_orc_ok) pX_ok_RX11 mo_has_code_ok (px_k0) 16 14 _ _ h q e
set_option maxRecDepth 200000 in
theorem mo_has_ok {d : Nat} {x0 : Int32} {x1 : Int32} {h : pH} {q : Int32 × pH} (e : mo_has x0 x1 h = some q) : px_Con (d + 1) 176 [.inl x0, .inl x1] h q :=
  px_con (X := pX_RX11) (b := prog_13_method_4_code) (nL := 2) (rt := (some .boolean)) rfl rfl (Nat.le_of_ble_eq_true rfl) rfl (px_blk_ok (d := d + 0) (M := (pX_RX11, prog_13_method_4_code, 2, (some .boolean))) (C := mo_has_orc) (code := mo_has_code) (ld := [14]) (kl := [(14, fun ls st h => px_if (px_fit [0, 0] ls && px_fits [1] st) (mo_has_14 (px_si st 0) h))]) (mo_has_orc_ok) pX_ok_RX11 mo_has_code_ok (px_k1 (px_ko (ts := [0, 0]) (ss := [1]) fun ls st h q e => mo_has_14_ok _ _ _ e) px_k0) 16 0 _ _ _ q e)
/-! WordsUnsaidModel.lost()I -/
noncomputable def mo_lost (h : pH) : pR :=
  let h1 := px_w h 51 14 (px_c 1)
  some (px_c 0, h1)
def mo_lost_code : pCode := [(0, .aload_n 0, 1), (1, .iconst 1, 1), (2, .putfield 106, 3), (5, .iconst 0, 1), (6, .ireturn, 1)]
set_option maxRecDepth 200000 in
theorem mo_lost_code_ok : px_code prog_13_method_5_code mo_lost_code = true := by decide +kernel
noncomputable def mo_lost_orc : pC := px_orc []
theorem mo_lost_orc_ok {d : Nat} : px_Or (d + 0) (mo_lost_orc) := px_orc_ok (by
  exact px_o0)
set_option maxRecDepth 200000 in
theorem mo_lost_ok {d : Nat} {h : pH} {q : Int32 × pH} (e : mo_lost h = some q) : px_Con (d + 1) 177 [.inr (.inl 51)] h q :=
  px_con (X := pX_RX11) (b := prog_13_method_5_code) (nL := 1) (rt := (some .int)) rfl rfl (Nat.le_of_ble_eq_true rfl) rfl (px_blk_ok (d := d + 0) (M := (pX_RX11, prog_13_method_5_code, 1, (some .int))) (C := mo_lost_orc) (code := mo_lost_code) (ld := []) (kl := []) (mo_lost_orc_ok) pX_ok_RX11 mo_lost_code_ok (px_k0) 10 0 _ _ _ q e)
/-! WordsUnsaidModel.tell(I)V -/
noncomputable def mo_tell (x1 : Int32) (h : pH) : pR :=
  px_if (px_ok 0 59 (h 51 13)) <|
  let h1 := px_w h 59 (h 51 13).toNatClampNeg x1
  let h2 := px_w h1 51 13 ((h1 51 13) + (px_c 1))
  some (0, h2)
def mo_tell_code : pCode := [(0, .aload_n 0, 1), (1, .getfield 36, 3), (4, .aload_n 0, 1), (5, .getfield 109, 3), (8, .iload_n 1, 1), (9, .iastore, 1), (10, .aload_n 0, 1), (11, .dup, 1), (12, .getfield 109, 3), (15, .iconst 1, 1), (16, .iadd, 1), (17, .putfield 109, 3), (20, .return_, 1)]
set_option maxRecDepth 200000 in
theorem mo_tell_code_ok : px_code prog_13_method_6_code mo_tell_code = true := by decide +kernel
noncomputable def mo_tell_orc : pC := px_orc []
theorem mo_tell_orc_ok {d : Nat} : px_Or (d + 0) (mo_tell_orc) := px_orc_ok (by
  exact px_o0)
set_option maxRecDepth 200000 in
theorem mo_tell_ok {d : Nat} {x1 : Int32} {h : pH} {q : Int32 × pH} (e : mo_tell x1 h = some q) : px_Con (d + 1) 178 [.inr (.inl 51), .inl x1] h q :=
  px_con (X := pX_RX11) (b := prog_13_method_6_code) (nL := 2) (rt := none) rfl rfl (Nat.le_of_ble_eq_true rfl) rfl (px_blk_ok (d := d + 0) (M := (pX_RX11, prog_13_method_6_code, 2, none)) (C := mo_tell_orc) (code := mo_tell_code) (ld := []) (kl := []) (mo_tell_orc_ok) pX_ok_RX11 mo_tell_code_ok (px_k0) 18 0 _ _ _ q e)
/-! WordsUnsaidModel.isPerson(I)Z -/
noncomputable def mo_isPerson (x1 : Int32) (h : pH) : pR :=
  px_bind (mo_in x1 (px_c 0) ((h 51 4) - (px_c 1)) h) fun z1 h2 =>
  px_bz z1 h2
def mo_isPerson_code : pCode := [(0, .iload_n 1, 1), (1, .iconst 0, 1), (2, .aload_n 0, 1), (3, .getfield 112, 3), (6, .iconst 1, 1), (7, .isub, 1), (8, .invokestatic 115, 3), (11, .ireturn, 1)]
set_option maxRecDepth 200000 in
theorem mo_isPerson_code_ok : px_code prog_13_method_7_code mo_isPerson_code = true := by decide +kernel
noncomputable def mo_isPerson_orc : pC := px_orc [(175, fun a h => match a with
    | [.inl v0, .inl v1, .inl v2] => mo_in v0 v1 v2 h
    | _ => none)]
theorem mo_isPerson_orc_ok {d : Nat} : px_Or (d + 1) (mo_isPerson_orc) := px_orc_ok (by
  refine px_o1 (fun a h q e => by
    dsimp only at e
    split at e
    · exact mo_in_ok (d := d + 0) e
    · cases e) ?_
  exact px_o0)
set_option maxRecDepth 200000 in
theorem mo_isPerson_ok {d : Nat} {x1 : Int32} {h : pH} {q : Int32 × pH} (e : mo_isPerson x1 h = some q) : px_Con (d + 2) 179 [.inr (.inl 51), .inl x1] h q :=
  px_con (X := pX_RX11) (b := prog_13_method_7_code) (nL := 2) (rt := (some .boolean)) rfl rfl (Nat.le_of_ble_eq_true rfl) rfl (px_blk_ok (d := d + 1) (M := (pX_RX11, prog_13_method_7_code, 2, (some .boolean))) (C := mo_isPerson_orc) (code := mo_isPerson_code) (ld := []) (kl := []) (mo_isPerson_orc_ok) pX_ok_RX11 mo_isPerson_code_ok (px_k0) 13 0 _ _ _ q e)
/-! WordsUnsaidModel.isThing(I)Z -/
noncomputable def mo_isThing (x1 : Int32) (h : pH) : pR :=
  px_bind (mo_in x1 (px_c 0) ((h 51 6) - (px_c 1)) h) fun z1 h2 =>
  px_bz z1 h2
def mo_isThing_code : pCode := [(0, .iload_n 1, 1), (1, .iconst 0, 1), (2, .aload_n 0, 1), (3, .getfield 119, 3), (6, .iconst 1, 1), (7, .isub, 1), (8, .invokestatic 115, 3), (11, .ireturn, 1)]
set_option maxRecDepth 200000 in
theorem mo_isThing_code_ok : px_code prog_13_method_8_code mo_isThing_code = true := by decide +kernel
noncomputable def mo_isThing_orc : pC := px_orc [(175, fun a h => match a with
    | [.inl v0, .inl v1, .inl v2] => mo_in v0 v1 v2 h
    | _ => none)]
theorem mo_isThing_orc_ok {d : Nat} : px_Or (d + 1) (mo_isThing_orc) := px_orc_ok (by
  refine px_o1 (fun a h q e => by
    dsimp only at e
    split at e
    · exact mo_in_ok (d := d + 0) e
    · cases e) ?_
  exact px_o0)
set_option maxRecDepth 200000 in
theorem mo_isThing_ok {d : Nat} {x1 : Int32} {h : pH} {q : Int32 × pH} (e : mo_isThing x1 h = some q) : px_Con (d + 2) 180 [.inr (.inl 51), .inl x1] h q :=
  px_con (X := pX_RX11) (b := prog_13_method_8_code) (nL := 2) (rt := (some .boolean)) rfl rfl (Nat.le_of_ble_eq_true rfl) rfl (px_blk_ok (d := d + 1) (M := (pX_RX11, prog_13_method_8_code, 2, (some .boolean))) (C := mo_isThing_orc) (code := mo_isThing_code) (ld := []) (kl := []) (mo_isThing_orc_ok) pX_ok_RX11 mo_isThing_code_ok (px_k0) 13 0 _ _ _ q e)
/-! WordsUnsaidModel.areTwo(II)Z -/
noncomputable def mo_areTwo_26 (s0 : Int32) (h : pH) : pR :=
  px_bz s0 h
noncomputable def mo_areTwo_25 (h : pH) : pR :=
  mo_areTwo_26 (px_c 0) h
noncomputable def mo_areTwo (x1 : Int32) (x2 : Int32) (h : pH) : pR :=
  px_bind (mo_isPerson x1 h) fun z1 h2 =>
  if z1 = 0 then
    mo_areTwo_25 h2
  else
    px_bind (mo_isPerson x2 h2) fun z3 h4 =>
    if z3 = 0 then
      mo_areTwo_25 h4
    else
      if x1 = x2 then
        mo_areTwo_25 h4
      else
        mo_areTwo_26 (px_c 1) h4
def mo_areTwo_code : pCode := [(0, .aload_n 0, 1), (1, .iload_n 1, 1), (2, .invokevirtual 122, 3), (5, .ifCond .eq (20), 3), (8, .aload_n 0, 1), (9, .iload_n 2, 1), (10, .invokevirtual 122, 3), (13, .ifCond .eq (12), 3), (16, .iload_n 1, 1), (17, .iload_n 2, 1), (18, .if_icmp .eq (7), 3), (21, .iconst 1, 1), (22, .goto (4), 3), (25, .iconst 0, 1), (26, .ireturn, 1)]
set_option maxRecDepth 200000 in
theorem mo_areTwo_code_ok : px_code prog_13_method_9_code mo_areTwo_code = true := by decide +kernel
noncomputable def mo_areTwo_orc : pC := px_orc [(179, fun a h => match a with
    | [.inr (.inl 51), .inl v1] => mo_isPerson v1 h
    | _ => none)]
theorem mo_areTwo_orc_ok {d : Nat} : px_Or (d + 2) (mo_areTwo_orc) := px_orc_ok (by
  refine px_o1 (fun a h q e => by
    dsimp only at e
    split at e
    · exact mo_isPerson_ok (d := d + 0) e
    · cases e) ?_
  exact px_o0)
set_option maxRecDepth 200000 in
theorem mo_areTwo_26_ok {d : Nat} : ∀ (s0 : Int32) (h : pH) (q : Int32 × pH), mo_areTwo_26 s0 h = some q → px_G (d + 2 + 1) (pX_RX11, prog_13_method_9_code, 3, (some .boolean)) 26 [none, none, none] [.inl s0] h q := by
  intro s0 h q e
  exact px_blk_ok (d := d + 2) (M := (pX_RX11, prog_13_method_9_code, 3, (some .boolean))) (C := mo_areTwo_orc) (code := mo_areTwo_code) (ld := []) (kl := []) (mo_areTwo_orc_ok) pX_ok_RX11 mo_areTwo_code_ok (px_k0) 20 26 _ _ h q e
set_option maxRecDepth 200000 in
theorem mo_areTwo_25_ok {d : Nat} : ∀ (h : pH) (q : Int32 × pH), mo_areTwo_25 h = some q → px_G (d + 2 + 1) (pX_RX11, prog_13_method_9_code, 3, (some .boolean)) 25 [none, none, none] [] h q := by
  intro h q e
  exact px_blk_ok (d := d + 2) (M := (pX_RX11, prog_13_method_9_code, 3, (some .boolean))) (C := mo_areTwo_orc) (code := mo_areTwo_code) (ld := [26]) (kl := [(26, fun ls st h => px_if (px_fit [0, 0, 0] ls && px_fits [1] st) (mo_areTwo_26 (px_si st 0) h))]) (mo_areTwo_orc_ok) pX_ok_RX11 mo_areTwo_code_ok (px_k1 (px_ko (ts := [0, 0, 0]) (ss := [1]) fun ls st h q e => mo_areTwo_26_ok _ _ _ e) px_k0) 20 25 _ _ h q e
set_option maxRecDepth 200000 in
theorem mo_areTwo_ok {d : Nat} {x1 : Int32} {x2 : Int32} {h : pH} {q : Int32 × pH} (e : mo_areTwo x1 x2 h = some q) : px_Con (d + 3) 181 [.inr (.inl 51), .inl x1, .inl x2] h q :=
  px_con (X := pX_RX11) (b := prog_13_method_9_code) (nL := 3) (rt := (some .boolean)) rfl rfl (Nat.le_of_ble_eq_true rfl) rfl (px_blk_ok (d := d + 2) (M := (pX_RX11, prog_13_method_9_code, 3, (some .boolean))) (C := mo_areTwo_orc) (code := mo_areTwo_code) (ld := [25, 26]) (kl := [(25, fun ls st h => px_if (px_fit [0, 0, 0] ls && px_fits [] st) (mo_areTwo_25 h)), (26, fun ls st h => px_if (px_fit [0, 0, 0] ls && px_fits [1] st) (mo_areTwo_26 (px_si st 0) h))]) (mo_areTwo_orc_ok) pX_ok_RX11 mo_areTwo_code_ok (px_k1 (px_ko (ts := [0, 0, 0]) (ss := []) fun ls st h q e => mo_areTwo_25_ok _ _ e) (px_k1 (px_ko (ts := [0, 0, 0]) (ss := [1]) fun ls st h q e => mo_areTwo_26_ok _ _ _ e) px_k0)) 20 0 _ _ _ q e)
/-! WordsUnsaidModel.isPlace(I)Z -/
noncomputable def mo_isPlace (x1 : Int32) (h : pH) : pR :=
  px_bind (mo_in x1 (px_c 0) ((px_c 1) + (h 51 2)) h) fun z1 h2 =>
  px_bz z1 h2
def mo_isPlace_code : pCode := [(0, .iload_n 1, 1), (1, .iconst 0, 1), (2, .iconst 1, 1), (3, .aload_n 0, 1), (4, .getfield 126, 3), (7, .iadd, 1), (8, .invokestatic 115, 3), (11, .ireturn, 1)]
set_option maxRecDepth 200000 in
theorem mo_isPlace_code_ok : px_code prog_13_method_10_code mo_isPlace_code = true := by decide +kernel
noncomputable def mo_isPlace_orc : pC := px_orc [(175, fun a h => match a with
    | [.inl v0, .inl v1, .inl v2] => mo_in v0 v1 v2 h
    | _ => none)]
theorem mo_isPlace_orc_ok {d : Nat} : px_Or (d + 1) (mo_isPlace_orc) := px_orc_ok (by
  refine px_o1 (fun a h q e => by
    dsimp only at e
    split at e
    · exact mo_in_ok (d := d + 0) e
    · cases e) ?_
  exact px_o0)
set_option maxRecDepth 200000 in
theorem mo_isPlace_ok {d : Nat} {x1 : Int32} {h : pH} {q : Int32 × pH} (e : mo_isPlace x1 h = some q) : px_Con (d + 2) 182 [.inr (.inl 51), .inl x1] h q :=
  px_con (X := pX_RX11) (b := prog_13_method_10_code) (nL := 2) (rt := (some .boolean)) rfl rfl (Nat.le_of_ble_eq_true rfl) rfl (px_blk_ok (d := d + 1) (M := (pX_RX11, prog_13_method_10_code, 2, (some .boolean))) (C := mo_isPlace_orc) (code := mo_isPlace_code) (ld := []) (kl := []) (mo_isPlace_orc_ok) pX_ok_RX11 mo_isPlace_code_ok (px_k0) 13 0 _ _ _ q e)
/-! WordsUnsaidModel.isBank(I)Z -/
noncomputable def mo_isBank (x0 : Int32) (h : pH) : pR :=
  px_bind (mo_in x0 (px_c 0) (px_c 1) h) fun z1 h2 =>
  px_bz z1 h2
def mo_isBank_code : pCode := [(0, .iload_n 0, 1), (1, .iconst 0, 1), (2, .iconst 1, 1), (3, .invokestatic 115, 3), (6, .ireturn, 1)]
set_option maxRecDepth 200000 in
theorem mo_isBank_code_ok : px_code prog_13_method_11_code mo_isBank_code = true := by decide +kernel
noncomputable def mo_isBank_orc : pC := px_orc [(175, fun a h => match a with
    | [.inl v0, .inl v1, .inl v2] => mo_in v0 v1 v2 h
    | _ => none)]
theorem mo_isBank_orc_ok {d : Nat} : px_Or (d + 1) (mo_isBank_orc) := px_orc_ok (by
  refine px_o1 (fun a h q e => by
    dsimp only at e
    split at e
    · exact mo_in_ok (d := d + 0) e
    · cases e) ?_
  exact px_o0)
set_option maxRecDepth 200000 in
theorem mo_isBank_ok {d : Nat} {x0 : Int32} {h : pH} {q : Int32 × pH} (e : mo_isBank x0 h = some q) : px_Con (d + 2) 183 [.inl x0] h q :=
  px_con (X := pX_RX11) (b := prog_13_method_11_code) (nL := 1) (rt := (some .boolean)) rfl rfl (Nat.le_of_ble_eq_true rfl) rfl (px_blk_ok (d := d + 1) (M := (pX_RX11, prog_13_method_11_code, 1, (some .boolean))) (C := mo_isBank_orc) (code := mo_isBank_code) (ld := []) (kl := []) (mo_isBank_orc_ok) pX_ok_RX11 mo_isBank_code_ok (px_k0) 10 0 _ _ _ q e)
/-! WordsUnsaidModel.yardOf(I)I -/
noncomputable def mo_yardOf_28 (s0 : Int32) (h : pH) : pR :=
  some (s0, h)
noncomputable def mo_yardOf (x1 : Int32) (h : pH) : pR :=
  if x1 = 0 then
    mo_yardOf_28 (px_c 0) h
  else
    if x1 = (px_c 1) then
      mo_yardOf_28 (h 51 1) h
    else
      px_if (px_ok 0 53 (x1 - (px_c 2))) <|
      mo_yardOf_28 (h 53 (x1 - (px_c 2)).toNatClampNeg) h
def mo_yardOf_code : pCode := [(0, .iload_n 1, 1), (1, .ifCond .ne (7), 3), (4, .iconst 0, 1), (5, .goto (23), 3), (8, .iload_n 1, 1), (9, .iconst 1, 1), (10, .if_icmp .ne (10), 3), (13, .aload_n 0, 1), (14, .getfield 13, 3), (17, .goto (11), 3), (20, .aload_n 0, 1), (21, .getfield 17, 3), (24, .iload_n 1, 1), (25, .iconst 2, 1), (26, .isub, 1), (27, .iaload, 1), (28, .ireturn, 1)]
set_option maxRecDepth 200000 in
theorem mo_yardOf_code_ok : px_code prog_13_method_12_code mo_yardOf_code = true := by decide +kernel
noncomputable def mo_yardOf_orc : pC := px_orc []
theorem mo_yardOf_orc_ok {d : Nat} : px_Or (d + 0) (mo_yardOf_orc) := px_orc_ok (by
  exact px_o0)
set_option maxRecDepth 200000 in
theorem mo_yardOf_28_ok {d : Nat} : ∀ (s0 : Int32) (h : pH) (q : Int32 × pH), mo_yardOf_28 s0 h = some q → px_G (d + 0 + 1) (pX_RX11, prog_13_method_12_code, 2, (some .int)) 28 [none, none] [.inl s0] h q := by
  intro s0 h q e
  exact px_blk_ok (d := d + 0) (M := (pX_RX11, prog_13_method_12_code, 2, (some .int))) (C := mo_yardOf_orc) (code := mo_yardOf_code) (ld := []) (kl := []) (mo_yardOf_orc_ok) pX_ok_RX11 mo_yardOf_code_ok (px_k0) 22 28 _ _ h q e
set_option maxRecDepth 200000 in
theorem mo_yardOf_ok {d : Nat} {x1 : Int32} {h : pH} {q : Int32 × pH} (e : mo_yardOf x1 h = some q) : px_Con (d + 1) 184 [.inr (.inl 51), .inl x1] h q :=
  px_con (X := pX_RX11) (b := prog_13_method_12_code) (nL := 2) (rt := (some .int)) rfl rfl (Nat.le_of_ble_eq_true rfl) rfl (px_blk_ok (d := d + 0) (M := (pX_RX11, prog_13_method_12_code, 2, (some .int))) (C := mo_yardOf_orc) (code := mo_yardOf_code) (ld := [28]) (kl := [(28, fun ls st h => px_if (px_fit [0, 0] ls && px_fits [1] st) (mo_yardOf_28 (px_si st 0) h))]) (mo_yardOf_orc_ok) pX_ok_RX11 mo_yardOf_code_ok (px_k1 (px_ko (ts := [0, 0]) (ss := [1]) fun ls st h q e => mo_yardOf_28_ok _ _ _ e) px_k0) 22 0 _ _ _ q e)
/-! WordsUnsaidModel.sign(I)I -/
noncomputable def mo_sign_20 : Nat → Int32 → Int32 → pH → pR
  | 0, _, _, _ => none
  | n + 1, x1, x2, h =>
    if x2 < 0 then
      some (h 51 11, h)
    else
      let h1 := px_w h 51 11 ((h 51 11) + (px_c 1))
      px_if (px_ok 1 58 (h 51 11)) <|
      let h2 := px_w h1 58 (h 51 11).toNatClampNeg (px_nb (px_i2b (x1 >>> (((px_c 8) * x2) &&& 31))))
      mo_sign_20 n x1 (x2 + px_c (-1)) h2
noncomputable def mo_sign (x1 : Int32) (h : pH) : pR :=
  let h1 := px_w h 51 14 (px_c 0)
  if ((h1 51 11) + (px_c 4)) ≤ (px_c 80) then
    mo_sign_20 px_F x1 (px_c 3) h1
  else
    some (px_c (-1), h1)
def mo_sign_code : pCode := [(0, .aload_n 0, 1), (1, .iconst 0, 1), (2, .putfield 106, 3), (5, .aload_n 0, 1), (6, .getfield 129, 3), (9, .iconst 4, 1), (10, .iadd, 1), (11, .bipush (80), 2), (13, .if_icmp .le (5), 3), (16, .iconst (-1), 1), (17, .ireturn, 1), (18, .iconst 3, 1), (19, .istore_n 2, 1), (20, .iload_n 2, 1), (21, .ifCond .lt (32), 3), (24, .aload_n 0, 1), (25, .getfield 32, 3), (28, .aload_n 0, 1), (29, .dup, 1), (30, .getfield 129, 3), (33, .dup_x1, 1), (34, .iconst 1, 1), (35, .iadd, 1), (36, .putfield 129, 3), (39, .iload_n 1, 1), (40, .bipush (8), 2), (42, .iload_n 2, 1), (43, .imul, 1), (44, .ishr, 1), (45, .i2b, 1), (46, .bastore, 1), (47, .iinc 2 (-1), 3), (50, .goto (-30), 3), (53, .aload_n 0, 1), (54, .getfield 129, 3), (57, .ireturn, 1)]
set_option maxRecDepth 200000 in
theorem mo_sign_code_ok : px_code prog_13_method_13_code mo_sign_code = true := by decide +kernel
noncomputable def mo_sign_orc : pC := px_orc []
theorem mo_sign_orc_ok {d : Nat} : px_Or (d + 0) (mo_sign_orc) := px_orc_ok (by
  exact px_o0)
set_option maxRecDepth 200000 in
theorem mo_sign_20_ok {d : Nat} : ∀ (n : Nat) (x1 : Int32) (x2 : Int32) (h : pH) (q : Int32 × pH), mo_sign_20 n x1 x2 h = some q → px_G (d + 0 + 1) (pX_RX11, prog_13_method_13_code, 3, (some .int)) 20 [some (.inr (.inl 51)), some (.inl x1), some (.inl x2)] [] h q := by
  intro n
  induction n with
  | zero =>
    intro x1 x2 h q e
    cases e
  | succ n ih =>
    intro x1 x2 h q e
    exact px_blk_ok (d := d + 0) (M := (pX_RX11, prog_13_method_13_code, 3, (some .int))) (C := mo_sign_orc) (code := mo_sign_code) (ld := [20]) (kl := [(20, fun ls st h => px_if (px_fit [61, 1, 1] ls && px_fits [] st) (mo_sign_20 n (px_gi ls 1) (px_gi ls 2) h))]) (mo_sign_orc_ok) pX_ok_RX11 mo_sign_code_ok (px_k1 (px_ko (ts := [61, 1, 1]) (ss := []) fun ls st h q e => ih _ _ _ _ e) px_k0) 41 20 _ _ h q e
set_option maxRecDepth 200000 in
theorem mo_sign_ok {d : Nat} {x1 : Int32} {h : pH} {q : Int32 × pH} (e : mo_sign x1 h = some q) : px_Con (d + 1) 185 [.inr (.inl 51), .inl x1] h q :=
  px_con (X := pX_RX11) (b := prog_13_method_13_code) (nL := 3) (rt := (some .int)) rfl rfl (Nat.le_of_ble_eq_true rfl) rfl (px_blk_ok (d := d + 0) (M := (pX_RX11, prog_13_method_13_code, 3, (some .int))) (C := mo_sign_orc) (code := mo_sign_code) (ld := [20]) (kl := [(20, fun ls st h => px_if (px_fit [61, 1, 1] ls && px_fits [] st) (mo_sign_20 px_F (px_gi ls 1) (px_gi ls 2) h))]) (mo_sign_orc_ok) pX_ok_RX11 mo_sign_code_ok (px_k1 (px_ko (ts := [61, 1, 1]) (ss := []) fun ls st h q e => mo_sign_20_ok _ _ _ _ _ e) px_k0) 41 0 _ _ _ q e)
/-! WordsUnsaidModel.end(I)Z -/
noncomputable def mo_end (x1 : Int32) (h : pH) : pR :=
  let h1 := px_w h 51 14 (px_c 0)
  px_bind (mo_in x1 (px_c 0) (h1 51 11) h1) fun z2 h3 =>
  if z2 = 0 then
    px_bz (px_c 0) h3
  else
    let h4 := px_w h3 51 11 x1
    px_bz (px_c 1) h4
def mo_end_code : pCode := [(0, .aload_n 0, 1), (1, .iconst 0, 1), (2, .putfield 106, 3), (5, .iload_n 1, 1), (6, .iconst 0, 1), (7, .aload_n 0, 1), (8, .getfield 129, 3), (11, .invokestatic 115, 3), (14, .ifCond .ne (5), 3), (17, .iconst 0, 1), (18, .ireturn, 1), (19, .aload_n 0, 1), (20, .iload_n 1, 1), (21, .putfield 129, 3), (24, .iconst 1, 1), (25, .ireturn, 1)]
set_option maxRecDepth 200000 in
theorem mo_end_code_ok : px_code prog_13_method_14_code mo_end_code = true := by decide +kernel
noncomputable def mo_end_orc : pC := px_orc [(175, fun a h => match a with
    | [.inl v0, .inl v1, .inl v2] => mo_in v0 v1 v2 h
    | _ => none)]
theorem mo_end_orc_ok {d : Nat} : px_Or (d + 1) (mo_end_orc) := px_orc_ok (by
  refine px_o1 (fun a h q e => by
    dsimp only at e
    split at e
    · exact mo_in_ok (d := d + 0) e
    · cases e) ?_
  exact px_o0)
set_option maxRecDepth 200000 in
theorem mo_end_ok {d : Nat} {x1 : Int32} {h : pH} {q : Int32 × pH} (e : mo_end x1 h = some q) : px_Con (d + 2) 186 [.inr (.inl 51), .inl x1] h q :=
  px_con (X := pX_RX11) (b := prog_13_method_14_code) (nL := 2) (rt := (some .boolean)) rfl rfl (Nat.le_of_ble_eq_true rfl) rfl (px_blk_ok (d := d + 1) (M := (pX_RX11, prog_13_method_14_code, 2, (some .boolean))) (C := mo_end_orc) (code := mo_end_code) (ld := []) (kl := []) (mo_end_orc_ok) pX_ok_RX11 mo_end_code_ok (px_k0) 21 0 _ _ _ q e)
/-! WordsUnsaidModel.begin([BII)V -/
noncomputable def mo_begin (a1 : Nat) (x2 : Int32) (x3 : Int32) (h : pH) : pR :=
  px_if (Nat.blt a1 px_N && Nat.beq (px_tag a1) 1) <|
  let h1 := px_w h 51 15 (nI a1)
  let h2 := px_w h1 51 16 x2
  let h3 := px_w h2 51 17 x3
  let h4 := px_w h3 51 18 (px_c 0)
  let h5 := px_w h4 51 19 (px_c (-1))
  some (0, h5)
def mo_begin_code : pCode := [(0, .aload_n 0, 1), (1, .aload_n 1, 1), (2, .putfield 132, 3), (5, .aload_n 0, 1), (6, .iload_n 2, 1), (7, .putfield 135, 3), (10, .aload_n 0, 1), (11, .iload_n 3, 1), (12, .putfield 138, 3), (15, .aload_n 0, 1), (16, .iconst 0, 1), (17, .putfield 141, 3), (20, .aload_n 0, 1), (21, .iconst (-1), 1), (22, .putfield 144, 3), (25, .return_, 1)]
set_option maxRecDepth 200000 in
theorem mo_begin_code_ok : px_code prog_13_method_15_code mo_begin_code = true := by decide +kernel
noncomputable def mo_begin_orc : pC := px_orc []
theorem mo_begin_orc_ok {d : Nat} : px_Or (d + 0) (mo_begin_orc) := px_orc_ok (by
  exact px_o0)
set_option maxRecDepth 200000 in
theorem mo_begin_ok {d : Nat} {a1 : Nat} {x2 : Int32} {x3 : Int32} {h : pH} {q : Int32 × pH} (e : mo_begin a1 x2 x3 h = some q) : px_Con (d + 1) 187 [.inr (.inl 51), .inr (.inl a1), .inl x2, .inl x3] h q :=
  px_con (X := pX_RX11) (b := prog_13_method_15_code) (nL := 4) (rt := none) rfl rfl (Nat.le_of_ble_eq_true rfl) rfl (px_blk_ok (d := d + 0) (M := (pX_RX11, prog_13_method_15_code, 4, none)) (C := mo_begin_orc) (code := mo_begin_code) (ld := []) (kl := []) (mo_begin_orc_ok) pX_ok_RX11 mo_begin_code_ok (px_k0) 21 0 _ _ _ q e)
/-! WordsUnsaidModel.here()I -/
noncomputable def mo_here_39 (s0 : Int32) (h : pH) : pR :=
  some (s0, h)
noncomputable def mo_here_38 (h : pH) : pR :=
  mo_here_39 (px_c (-1)) h
noncomputable def mo_here (h : pH) : pR :=
  if (h 51 16) ≤ (h 51 18) then
    mo_here_38 h
  else
    if (h 51 17) ≤ (h 51 18) then
      mo_here_38 h
    else
      px_if (decide (0 ≤ h 51 15) && Nat.blt (h 51 15).toNatClampNeg px_N) <|
      px_if (px_ok 1 ((h 51 15).toNatClampNeg) (h 51 18) || px_ok 3 ((h 51 15).toNatClampNeg) (h 51 18)) <|
      mo_here_39 ((h ((h 51 15).toNatClampNeg) (h 51 18).toNatClampNeg) &&& (px_c 255)) h
def mo_here_code : pCode := [(0, .aload_n 0, 1), (1, .getfield 141, 3), (4, .aload_n 0, 1), (5, .getfield 135, 3), (8, .if_icmp .ge (30), 3), (11, .aload_n 0, 1), (12, .getfield 141, 3), (15, .aload_n 0, 1), (16, .getfield 138, 3), (19, .if_icmp .ge (19), 3), (22, .aload_n 0, 1), (23, .getfield 132, 3), (26, .aload_n 0, 1), (27, .getfield 141, 3), (30, .baload, 1), (31, .sipush (255), 3), (34, .iand, 1), (35, .goto (4), 3), (38, .iconst (-1), 1), (39, .ireturn, 1)]
set_option maxRecDepth 200000 in
theorem mo_here_code_ok : px_code prog_13_method_16_code mo_here_code = true := by decide +kernel
noncomputable def mo_here_orc : pC := px_orc []
theorem mo_here_orc_ok {d : Nat} : px_Or (d + 0) (mo_here_orc) := px_orc_ok (by
  exact px_o0)
set_option maxRecDepth 200000 in
theorem mo_here_39_ok {d : Nat} : ∀ (s0 : Int32) (h : pH) (q : Int32 × pH), mo_here_39 s0 h = some q → px_G (d + 0 + 1) (pX_RX11, prog_13_method_16_code, 1, (some .int)) 39 [none] [.inl s0] h q := by
  intro s0 h q e
  exact px_blk_ok (d := d + 0) (M := (pX_RX11, prog_13_method_16_code, 1, (some .int))) (C := mo_here_orc) (code := mo_here_code) (ld := []) (kl := []) (mo_here_orc_ok) pX_ok_RX11 mo_here_code_ok (px_k0) 25 39 _ _ h q e
set_option maxRecDepth 200000 in
theorem mo_here_38_ok {d : Nat} : ∀ (h : pH) (q : Int32 × pH), mo_here_38 h = some q → px_G (d + 0 + 1) (pX_RX11, prog_13_method_16_code, 1, (some .int)) 38 [none] [] h q := by
  intro h q e
  exact px_blk_ok (d := d + 0) (M := (pX_RX11, prog_13_method_16_code, 1, (some .int))) (C := mo_here_orc) (code := mo_here_code) (ld := [39]) (kl := [(39, fun ls st h => px_if (px_fit [0] ls && px_fits [1] st) (mo_here_39 (px_si st 0) h))]) (mo_here_orc_ok) pX_ok_RX11 mo_here_code_ok (px_k1 (px_ko (ts := [0]) (ss := [1]) fun ls st h q e => mo_here_39_ok _ _ _ e) px_k0) 25 38 _ _ h q e
set_option maxRecDepth 200000 in
theorem mo_here_ok {d : Nat} {h : pH} {q : Int32 × pH} (e : mo_here h = some q) : px_Con (d + 1) 188 [.inr (.inl 51)] h q :=
  px_con (X := pX_RX11) (b := prog_13_method_16_code) (nL := 1) (rt := (some .int)) rfl rfl (Nat.le_of_ble_eq_true rfl) rfl (px_blk_ok (d := d + 0) (M := (pX_RX11, prog_13_method_16_code, 1, (some .int))) (C := mo_here_orc) (code := mo_here_code) (ld := [38, 39]) (kl := [(38, fun ls st h => px_if (px_fit [0] ls && px_fits [] st) (mo_here_38 h)), (39, fun ls st h => px_if (px_fit [0] ls && px_fits [1] st) (mo_here_39 (px_si st 0) h))]) (mo_here_orc_ok) pX_ok_RX11 mo_here_code_ok (px_k1 (px_ko (ts := [0]) (ss := []) fun ls st h q e => mo_here_38_ok _ _ e) (px_k1 (px_ko (ts := [0]) (ss := [1]) fun ls st h q e => mo_here_39_ok _ _ _ e) px_k0)) 25 0 _ _ _ q e)
/-! WordsUnsaidModel.fine()Z -/
noncomputable def mo_fine_13 (s0 : Int32) (h : pH) : pR :=
  px_bz s0 h
noncomputable def mo_fine (h : pH) : pR :=
  if (h 51 19) = (px_c (-1)) then
    mo_fine_13 (px_c 1) h
  else
    mo_fine_13 (px_c 0) h
def mo_fine_code : pCode := [(0, .aload_n 0, 1), (1, .getfield 144, 3), (4, .iconst (-1), 1), (5, .if_icmp .ne (7), 3), (8, .iconst 1, 1), (9, .goto (4), 3), (12, .iconst 0, 1), (13, .ireturn, 1)]
set_option maxRecDepth 200000 in
theorem mo_fine_code_ok : px_code prog_13_method_17_code mo_fine_code = true := by decide +kernel
noncomputable def mo_fine_orc : pC := px_orc []
theorem mo_fine_orc_ok {d : Nat} : px_Or (d + 0) (mo_fine_orc) := px_orc_ok (by
  exact px_o0)
set_option maxRecDepth 200000 in
theorem mo_fine_13_ok {d : Nat} : ∀ (s0 : Int32) (h : pH) (q : Int32 × pH), mo_fine_13 s0 h = some q → px_G (d + 0 + 1) (pX_RX11, prog_13_method_17_code, 1, (some .boolean)) 13 [none] [.inl s0] h q := by
  intro s0 h q e
  exact px_blk_ok (d := d + 0) (M := (pX_RX11, prog_13_method_17_code, 1, (some .boolean))) (C := mo_fine_orc) (code := mo_fine_code) (ld := []) (kl := []) (mo_fine_orc_ok) pX_ok_RX11 mo_fine_code_ok (px_k0) 13 13 _ _ h q e
set_option maxRecDepth 200000 in
theorem mo_fine_ok {d : Nat} {h : pH} {q : Int32 × pH} (e : mo_fine h = some q) : px_Con (d + 1) 189 [.inr (.inl 51)] h q :=
  px_con (X := pX_RX11) (b := prog_13_method_17_code) (nL := 1) (rt := (some .boolean)) rfl rfl (Nat.le_of_ble_eq_true rfl) rfl (px_blk_ok (d := d + 0) (M := (pX_RX11, prog_13_method_17_code, 1, (some .boolean))) (C := mo_fine_orc) (code := mo_fine_code) (ld := [13]) (kl := [(13, fun ls st h => px_if (px_fit [0] ls && px_fits [1] st) (mo_fine_13 (px_si st 0) h))]) (mo_fine_orc_ok) pX_ok_RX11 mo_fine_code_ok (px_k1 (px_ko (ts := [0]) (ss := [1]) fun ls st h q e => mo_fine_13_ok _ _ _ e) px_k0) 13 0 _ _ _ q e)
/-! WordsUnsaidModel.fault(I)V -/
noncomputable def mo_fault_12 (h : pH) : pR :=
  some (0, h)
noncomputable def mo_fault (x1 : Int32) (h : pH) : pR :=
  px_bind (mo_fine h) fun z1 h2 =>
  if z1 = 0 then
    mo_fault_12 h2
  else
    let h3 := px_w h2 51 19 x1
    mo_fault_12 h3
def mo_fault_code : pCode := [(0, .aload_n 0, 1), (1, .invokevirtual 147, 3), (4, .ifCond .eq (8), 3), (7, .aload_n 0, 1), (8, .iload_n 1, 1), (9, .putfield 144, 3), (12, .return_, 1)]
set_option maxRecDepth 200000 in
theorem mo_fault_code_ok : px_code prog_13_method_18_code mo_fault_code = true := by decide +kernel
noncomputable def mo_fault_orc : pC := px_orc [(189, fun a h => match a with
    | [.inr (.inl 51)] => mo_fine h
    | _ => none)]
theorem mo_fault_orc_ok {d : Nat} : px_Or (d + 1) (mo_fault_orc) := px_orc_ok (by
  refine px_o1 (fun a h q e => by
    dsimp only at e
    split at e
    · exact mo_fine_ok (d := d + 0) e
    · cases e) ?_
  exact px_o0)
set_option maxRecDepth 200000 in
theorem mo_fault_12_ok {d : Nat} : ∀ (h : pH) (q : Int32 × pH), mo_fault_12 h = some q → px_G (d + 1 + 1) (pX_RX11, prog_13_method_18_code, 2, none) 12 [none, none] [] h q := by
  intro h q e
  exact px_blk_ok (d := d + 1) (M := (pX_RX11, prog_13_method_18_code, 2, none)) (C := mo_fault_orc) (code := mo_fault_code) (ld := []) (kl := []) (mo_fault_orc_ok) pX_ok_RX11 mo_fault_code_ok (px_k0) 12 12 _ _ h q e
set_option maxRecDepth 200000 in
theorem mo_fault_ok {d : Nat} {x1 : Int32} {h : pH} {q : Int32 × pH} (e : mo_fault x1 h = some q) : px_Con (d + 2) 190 [.inr (.inl 51), .inl x1] h q :=
  px_con (X := pX_RX11) (b := prog_13_method_18_code) (nL := 2) (rt := none) rfl rfl (Nat.le_of_ble_eq_true rfl) rfl (px_blk_ok (d := d + 1) (M := (pX_RX11, prog_13_method_18_code, 2, none)) (C := mo_fault_orc) (code := mo_fault_code) (ld := [12]) (kl := [(12, fun ls st h => px_if (px_fit [0, 0] ls && px_fits [] st) (mo_fault_12 h))]) (mo_fault_orc_ok) pX_ok_RX11 mo_fault_code_ok (px_k1 (px_ko (ts := [0, 0]) (ss := []) fun ls st h q e => mo_fault_12_ok _ _ e) px_k0) 12 0 _ _ _ q e)
/-! WordsUnsaidModel.passes(C)Z -/
noncomputable def mo_passes_15 (h : pH) : pR :=
  px_bz (px_c 0) h
noncomputable def mo_passes (x1 : Int32) (h : pH) : pR :=
  px_bind (mo_fine h) fun z1 h2 =>
  if z1 = 0 then
    mo_passes_15 h2
  else
    px_bind (mo_here h2) fun z3 h4 =>
    if z3 = x1 then
      let h5 := px_w h4 51 18 ((h4 51 18) + (px_c 1))
      px_bz (px_c 1) h5
    else
      mo_passes_15 h4
def mo_passes_code : pCode := [(0, .aload_n 0, 1), (1, .invokevirtual 147, 3), (4, .ifCond .eq (11), 3), (7, .aload_n 0, 1), (8, .invokevirtual 151, 3), (11, .iload_n 1, 1), (12, .if_icmp .eq (5), 3), (15, .iconst 0, 1), (16, .ireturn, 1), (17, .aload_n 0, 1), (18, .dup, 1), (19, .getfield 141, 3), (22, .iconst 1, 1), (23, .iadd, 1), (24, .putfield 141, 3), (27, .iconst 1, 1), (28, .ireturn, 1)]
set_option maxRecDepth 200000 in
theorem mo_passes_code_ok : px_code prog_13_method_19_code mo_passes_code = true := by decide +kernel
noncomputable def mo_passes_orc : pC := px_orc [(189, fun a h => match a with
    | [.inr (.inl 51)] => mo_fine h
    | _ => none), (188, fun a h => match a with
    | [.inr (.inl 51)] => mo_here h
    | _ => none)]
theorem mo_passes_orc_ok {d : Nat} : px_Or (d + 1) (mo_passes_orc) := px_orc_ok (by
  refine px_o1 (fun a h q e => by
    dsimp only at e
    split at e
    · exact mo_fine_ok (d := d + 0) e
    · cases e) ?_
  refine px_o1 (fun a h q e => by
    dsimp only at e
    split at e
    · exact mo_here_ok (d := d + 0) e
    · cases e) ?_
  exact px_o0)
set_option maxRecDepth 200000 in
theorem mo_passes_15_ok {d : Nat} : ∀ (h : pH) (q : Int32 × pH), mo_passes_15 h = some q → px_G (d + 1 + 1) (pX_RX11, prog_13_method_19_code, 2, (some .boolean)) 15 [none, none] [] h q := by
  intro h q e
  exact px_blk_ok (d := d + 1) (M := (pX_RX11, prog_13_method_19_code, 2, (some .boolean))) (C := mo_passes_orc) (code := mo_passes_code) (ld := []) (kl := []) (mo_passes_orc_ok) pX_ok_RX11 mo_passes_code_ok (px_k0) 22 15 _ _ h q e
set_option maxRecDepth 200000 in
theorem mo_passes_ok {d : Nat} {x1 : Int32} {h : pH} {q : Int32 × pH} (e : mo_passes x1 h = some q) : px_Con (d + 2) 191 [.inr (.inl 51), .inl x1] h q :=
  px_con (X := pX_RX11) (b := prog_13_method_19_code) (nL := 2) (rt := (some .boolean)) rfl rfl (Nat.le_of_ble_eq_true rfl) rfl (px_blk_ok (d := d + 1) (M := (pX_RX11, prog_13_method_19_code, 2, (some .boolean))) (C := mo_passes_orc) (code := mo_passes_code) (ld := [15]) (kl := [(15, fun ls st h => px_if (px_fit [0, 0] ls && px_fits [] st) (mo_passes_15 h))]) (mo_passes_orc_ok) pX_ok_RX11 mo_passes_code_ok (px_k1 (px_ko (ts := [0, 0]) (ss := []) fun ls st h q e => mo_passes_15_ok _ _ e) px_k0) 22 0 _ _ _ q e)
/-! WordsUnsaidModel.need(C)V -/
noncomputable def mo_need_16 (h : pH) : pR :=
  some (0, h)
noncomputable def mo_need (x1 : Int32) (h : pH) : pR :=
  px_bind (mo_passes x1 h) fun z1 h2 =>
  if z1 = 0 then
    px_bind (mo_fault (h2 51 18) h2) fun _ h4 =>
    mo_need_16 h4
  else
    mo_need_16 h2
def mo_need_code : pCode := [(0, .aload_n 0, 1), (1, .iload_n 1, 1), (2, .invokevirtual 155, 3), (5, .ifCond .ne (11), 3), (8, .aload_n 0, 1), (9, .aload_n 0, 1), (10, .getfield 141, 3), (13, .invokevirtual 159, 3), (16, .return_, 1)]
set_option maxRecDepth 200000 in
theorem mo_need_code_ok : px_code prog_13_method_20_code mo_need_code = true := by decide +kernel
noncomputable def mo_need_orc : pC := px_orc [(191, fun a h => match a with
    | [.inr (.inl 51), .inl v1] => mo_passes v1 h
    | _ => none), (190, fun a h => match a with
    | [.inr (.inl 51), .inl v1] => mo_fault v1 h
    | _ => none)]
theorem mo_need_orc_ok {d : Nat} : px_Or (d + 2) (mo_need_orc) := px_orc_ok (by
  refine px_o1 (fun a h q e => by
    dsimp only at e
    split at e
    · exact mo_passes_ok (d := d + 0) e
    · cases e) ?_
  refine px_o1 (fun a h q e => by
    dsimp only at e
    split at e
    · exact mo_fault_ok (d := d + 0) e
    · cases e) ?_
  exact px_o0)
set_option maxRecDepth 200000 in
theorem mo_need_16_ok {d : Nat} : ∀ (h : pH) (q : Int32 × pH), mo_need_16 h = some q → px_G (d + 2 + 1) (pX_RX11, prog_13_method_20_code, 2, none) 16 [none, none] [] h q := by
  intro h q e
  exact px_blk_ok (d := d + 2) (M := (pX_RX11, prog_13_method_20_code, 2, none)) (C := mo_need_orc) (code := mo_need_code) (ld := []) (kl := []) (mo_need_orc_ok) pX_ok_RX11 mo_need_code_ok (px_k0) 14 16 _ _ h q e
set_option maxRecDepth 200000 in
theorem mo_need_ok {d : Nat} {x1 : Int32} {h : pH} {q : Int32 × pH} (e : mo_need x1 h = some q) : px_Con (d + 3) 192 [.inr (.inl 51), .inl x1] h q :=
  px_con (X := pX_RX11) (b := prog_13_method_20_code) (nL := 2) (rt := none) rfl rfl (Nat.le_of_ble_eq_true rfl) rfl (px_blk_ok (d := d + 2) (M := (pX_RX11, prog_13_method_20_code, 2, none)) (C := mo_need_orc) (code := mo_need_code) (ld := [16]) (kl := [(16, fun ls st h => px_if (px_fit [0, 0] ls && px_fits [] st) (mo_need_16 h))]) (mo_need_orc_ok) pX_ok_RX11 mo_need_code_ok (px_k1 (px_ko (ts := [0, 0]) (ss := []) fun ls st h q e => mo_need_16_ok _ _ e) px_k0) 14 0 _ _ _ q e)
/-! WordsUnsaidModel.digit(II)I -/
noncomputable def mo_digit (x1 : Int32) (x2 : Int32) (h : pH) : pR :=
  px_bind (mo_fine h) fun z1 h2 =>
  if z1 = 0 then
    some (px_c 0, h2)
  else
    px_bind (mo_here h2) fun z3 h4 =>
    px_bind (mo_in z3 ((px_c 48) + x1) ((px_c 48) + x2) h4) fun z5 h6 =>
    if z5 = 0 then
      px_bind (mo_fault (h6 51 18) h6) fun _ h8 =>
      some (px_c 0, h8)
    else
      let h9 := px_w h6 51 18 ((h6 51 18) + (px_c 1))
      px_if (decide (0 ≤ h9 51 15) && Nat.blt (h9 51 15).toNatClampNeg px_N) <|
      px_if (px_ok 1 ((h9 51 15).toNatClampNeg) ((h9 51 18) - (px_c 1)) || px_ok 3 ((h9 51 15).toNatClampNeg) ((h9 51 18) - (px_c 1))) <|
      some ((h9 ((h9 51 15).toNatClampNeg) ((h9 51 18) - (px_c 1)).toNatClampNeg) - (px_c 48), h9)
def mo_digit_code : pCode := [(0, .aload_n 0, 1), (1, .invokevirtual 147, 3), (4, .ifCond .ne (5), 3), (7, .iconst 0, 1), (8, .ireturn, 1), (9, .aload_n 0, 1), (10, .invokevirtual 151, 3), (13, .bipush (48), 2), (15, .iload_n 1, 1), (16, .iadd, 1), (17, .bipush (48), 2), (19, .iload_n 2, 1), (20, .iadd, 1), (21, .invokestatic 115, 3), (24, .ifCond .ne (13), 3), (27, .aload_n 0, 1), (28, .aload_n 0, 1), (29, .getfield 141, 3), (32, .invokevirtual 159, 3), (35, .iconst 0, 1), (36, .ireturn, 1), (37, .aload_n 0, 1), (38, .dup, 1), (39, .getfield 141, 3), (42, .iconst 1, 1), (43, .iadd, 1), (44, .putfield 141, 3), (47, .aload_n 0, 1), (48, .getfield 132, 3), (51, .aload_n 0, 1), (52, .getfield 141, 3), (55, .iconst 1, 1), (56, .isub, 1), (57, .baload, 1), (58, .bipush (48), 2), (60, .isub, 1), (61, .ireturn, 1)]
set_option maxRecDepth 200000 in
theorem mo_digit_code_ok : px_code prog_13_method_21_code mo_digit_code = true := by decide +kernel
noncomputable def mo_digit_orc : pC := px_orc [(189, fun a h => match a with
    | [.inr (.inl 51)] => mo_fine h
    | _ => none), (188, fun a h => match a with
    | [.inr (.inl 51)] => mo_here h
    | _ => none), (175, fun a h => match a with
    | [.inl v0, .inl v1, .inl v2] => mo_in v0 v1 v2 h
    | _ => none), (190, fun a h => match a with
    | [.inr (.inl 51), .inl v1] => mo_fault v1 h
    | _ => none)]
theorem mo_digit_orc_ok {d : Nat} : px_Or (d + 2) (mo_digit_orc) := px_orc_ok (by
  refine px_o1 (fun a h q e => by
    dsimp only at e
    split at e
    · exact mo_fine_ok (d := d + 1) e
    · cases e) ?_
  refine px_o1 (fun a h q e => by
    dsimp only at e
    split at e
    · exact mo_here_ok (d := d + 1) e
    · cases e) ?_
  refine px_o1 (fun a h q e => by
    dsimp only at e
    split at e
    · exact mo_in_ok (d := d + 1) e
    · cases e) ?_
  refine px_o1 (fun a h q e => by
    dsimp only at e
    split at e
    · exact mo_fault_ok (d := d + 0) e
    · cases e) ?_
  exact px_o0)
set_option maxRecDepth 200000 in
theorem mo_digit_ok {d : Nat} {x1 : Int32} {x2 : Int32} {h : pH} {q : Int32 × pH} (e : mo_digit x1 x2 h = some q) : px_Con (d + 3) 193 [.inr (.inl 51), .inl x1, .inl x2] h q :=
  px_con (X := pX_RX11) (b := prog_13_method_21_code) (nL := 3) (rt := (some .int)) rfl rfl (Nat.le_of_ble_eq_true rfl) rfl (px_blk_ok (d := d + 2) (M := (pX_RX11, prog_13_method_21_code, 3, (some .int))) (C := mo_digit_orc) (code := mo_digit_code) (ld := []) (kl := []) (mo_digit_orc_ok) pX_ok_RX11 mo_digit_code_ok (px_k0) 42 0 _ _ _ q e)
/-! WordsUnsaidModel.number(I)I -/
noncomputable def mo_number_55 (x2 : Int32) (h : pH) : pR :=
  some (x2, h)
noncomputable def mo_number_10 : Nat → Int32 → Int32 → Int32 → pH → pR
  | 0, _, _, _, _ => none
  | n + 1, x1, x2, x3, h =>
    if x1 ≤ x3 then
      mo_number_55 x2 h
    else
      px_bind (mo_fine h) fun z1 h2 =>
      if z1 = 0 then
        mo_number_55 x2 h2
      else
        px_bind (mo_here h2) fun z3 h4 =>
        px_bind (mo_in z3 (px_c 48) (px_c 57) h4) fun z5 h6 =>
        if z5 = 0 then
          mo_number_55 x2 h6
        else
          px_bind (mo_digit (px_c 0) (px_c 9) h6) fun z7 h8 =>
          let y2_9 := ((px_c 10) * x2) + z7
          mo_number_10 n x1 y2_9 (x3 + px_c 1) h8
noncomputable def mo_number (x1 : Int32) (h : pH) : pR :=
  px_bind (mo_digit (px_c 0) (px_c 9) h) fun z1 h2 =>
  mo_number_10 px_F x1 z1 (px_c 1) h2
def mo_number_code : pCode := [(0, .aload_n 0, 1), (1, .iconst 0, 1), (2, .bipush (9), 2), (4, .invokevirtual 163, 3), (7, .istore_n 2, 1), (8, .iconst 1, 1), (9, .istore_n 3, 1), (10, .iload_n 3, 1), (11, .iload_n 1, 1), (12, .if_icmp .ge (43), 3), (15, .aload_n 0, 1), (16, .invokevirtual 147, 3), (19, .ifCond .eq (36), 3), (22, .aload_n 0, 1), (23, .invokevirtual 151, 3), (26, .bipush (48), 2), (28, .bipush (57), 2), (30, .invokestatic 115, 3), (33, .ifCond .eq (22), 3), (36, .bipush (10), 2), (38, .iload_n 2, 1), (39, .imul, 1), (40, .aload_n 0, 1), (41, .iconst 0, 1), (42, .bipush (9), 2), (44, .invokevirtual 163, 3), (47, .iadd, 1), (48, .istore_n 2, 1), (49, .iinc 3 (1), 3), (52, .goto (-42), 3), (55, .iload_n 2, 1), (56, .ireturn, 1)]
set_option maxRecDepth 200000 in
theorem mo_number_code_ok : px_code prog_13_method_22_code mo_number_code = true := by decide +kernel
noncomputable def mo_number_orc : pC := px_orc [(189, fun a h => match a with
    | [.inr (.inl 51)] => mo_fine h
    | _ => none), (188, fun a h => match a with
    | [.inr (.inl 51)] => mo_here h
    | _ => none), (175, fun a h => match a with
    | [.inl v0, .inl v1, .inl v2] => mo_in v0 v1 v2 h
    | _ => none), (193, fun a h => match a with
    | [.inr (.inl 51), .inl v1, .inl v2] => mo_digit v1 v2 h
    | _ => none)]
theorem mo_number_orc_ok {d : Nat} : px_Or (d + 3) (mo_number_orc) := px_orc_ok (by
  refine px_o1 (fun a h q e => by
    dsimp only at e
    split at e
    · exact mo_fine_ok (d := d + 2) e
    · cases e) ?_
  refine px_o1 (fun a h q e => by
    dsimp only at e
    split at e
    · exact mo_here_ok (d := d + 2) e
    · cases e) ?_
  refine px_o1 (fun a h q e => by
    dsimp only at e
    split at e
    · exact mo_in_ok (d := d + 2) e
    · cases e) ?_
  refine px_o1 (fun a h q e => by
    dsimp only at e
    split at e
    · exact mo_digit_ok (d := d + 0) e
    · cases e) ?_
  exact px_o0)
set_option maxRecDepth 200000 in
theorem mo_number_55_ok {d : Nat} : ∀ (x2 : Int32) (h : pH) (q : Int32 × pH), mo_number_55 x2 h = some q → px_G (d + 3 + 1) (pX_RX11, prog_13_method_22_code, 4, (some .int)) 55 [none, none, some (.inl x2), none] [] h q := by
  intro x2 h q e
  exact px_blk_ok (d := d + 3) (M := (pX_RX11, prog_13_method_22_code, 4, (some .int))) (C := mo_number_orc) (code := mo_number_code) (ld := []) (kl := []) (mo_number_orc_ok) pX_ok_RX11 mo_number_code_ok (px_k0) 37 55 _ _ h q e
set_option maxRecDepth 200000 in
theorem mo_number_10_ok {d : Nat} : ∀ (n : Nat) (x1 : Int32) (x2 : Int32) (x3 : Int32) (h : pH) (q : Int32 × pH), mo_number_10 n x1 x2 x3 h = some q → px_G (d + 3 + 1) (pX_RX11, prog_13_method_22_code, 4, (some .int)) 10 [some (.inr (.inl 51)), some (.inl x1), some (.inl x2), some (.inl x3)] [] h q := by
  intro n
  induction n with
  | zero =>
    intro x1 x2 x3 h q e
    cases e
  | succ n ih =>
    intro x1 x2 x3 h q e
    exact px_blk_ok (d := d + 3) (M := (pX_RX11, prog_13_method_22_code, 4, (some .int))) (C := mo_number_orc) (code := mo_number_code) (ld := [10, 55]) (kl := [(10, fun ls st h => px_if (px_fit [61, 1, 1, 1] ls && px_fits [] st) (mo_number_10 n (px_gi ls 1) (px_gi ls 2) (px_gi ls 3) h)), (55, fun ls st h => px_if (px_fit [0, 0, 1, 0] ls && px_fits [] st) (mo_number_55 (px_gi ls 2) h))]) (mo_number_orc_ok) pX_ok_RX11 mo_number_code_ok (px_k1 (px_ko (ts := [61, 1, 1, 1]) (ss := []) fun ls st h q e => ih _ _ _ _ _ e) (px_k1 (px_ko (ts := [0, 0, 1, 0]) (ss := []) fun ls st h q e => mo_number_55_ok _ _ _ e) px_k0)) 37 10 _ _ h q e
set_option maxRecDepth 200000 in
theorem mo_number_ok {d : Nat} {x1 : Int32} {h : pH} {q : Int32 × pH} (e : mo_number x1 h = some q) : px_Con (d + 4) 194 [.inr (.inl 51), .inl x1] h q :=
  px_con (X := pX_RX11) (b := prog_13_method_22_code) (nL := 4) (rt := (some .int)) rfl rfl (Nat.le_of_ble_eq_true rfl) rfl (px_blk_ok (d := d + 3) (M := (pX_RX11, prog_13_method_22_code, 4, (some .int))) (C := mo_number_orc) (code := mo_number_code) (ld := [10]) (kl := [(10, fun ls st h => px_if (px_fit [61, 1, 1, 1] ls && px_fits [] st) (mo_number_10 px_F (px_gi ls 1) (px_gi ls 2) (px_gi ls 3) h))]) (mo_number_orc_ok) pX_ok_RX11 mo_number_code_ok (px_k1 (px_ko (ts := [61, 1, 1, 1]) (ss := []) fun ls st h q e => mo_number_10_ok _ _ _ _ _ _ e) px_k0) 37 0 _ _ _ q e)
/-! WordsUnsaidModel.number(II)I -/
noncomputable def mo_number__32 (x3 : Int32) (h : pH) : pR :=
  some (x3, h)
noncomputable def mo_number_ (x1 : Int32) (x2 : Int32) (h : pH) : pR :=
  px_bind (mo_number (px_c 2) h) fun z1 h2 =>
  px_bind (mo_fine h2) fun z3 h4 =>
  if z3 = 0 then
    mo_number__32 z1 h4
  else
    px_bind (mo_in z1 x1 x2 h4) fun z5 h6 =>
    if z5 = 0 then
      px_bind (mo_fault ((h6 51 18) - (px_c 1)) h6) fun _ h8 =>
      mo_number__32 z1 h8
    else
      mo_number__32 z1 h6
def mo_number__code : pCode := [(0, .aload_n 0, 1), (1, .iconst 2, 1), (2, .invokevirtual 167, 3), (5, .istore_n 3, 1), (6, .aload_n 0, 1), (7, .invokevirtual 147, 3), (10, .ifCond .eq (22), 3), (13, .iload_n 3, 1), (14, .iload_n 1, 1), (15, .iload_n 2, 1), (16, .invokestatic 115, 3), (19, .ifCond .ne (13), 3), (22, .aload_n 0, 1), (23, .aload_n 0, 1), (24, .getfield 141, 3), (27, .iconst 1, 1), (28, .isub, 1), (29, .invokevirtual 159, 3), (32, .iload_n 3, 1), (33, .ireturn, 1)]
set_option maxRecDepth 200000 in
theorem mo_number__code_ok : px_code prog_13_method_23_code mo_number__code = true := by decide +kernel
noncomputable def mo_number__orc : pC := px_orc [(194, fun a h => match a with
    | [.inr (.inl 51), .inl v1] => mo_number v1 h
    | _ => none), (189, fun a h => match a with
    | [.inr (.inl 51)] => mo_fine h
    | _ => none), (175, fun a h => match a with
    | [.inl v0, .inl v1, .inl v2] => mo_in v0 v1 v2 h
    | _ => none), (190, fun a h => match a with
    | [.inr (.inl 51), .inl v1] => mo_fault v1 h
    | _ => none)]
theorem mo_number__orc_ok {d : Nat} : px_Or (d + 4) (mo_number__orc) := px_orc_ok (by
  refine px_o1 (fun a h q e => by
    dsimp only at e
    split at e
    · exact mo_number_ok (d := d + 0) e
    · cases e) ?_
  refine px_o1 (fun a h q e => by
    dsimp only at e
    split at e
    · exact mo_fine_ok (d := d + 3) e
    · cases e) ?_
  refine px_o1 (fun a h q e => by
    dsimp only at e
    split at e
    · exact mo_in_ok (d := d + 3) e
    · cases e) ?_
  refine px_o1 (fun a h q e => by
    dsimp only at e
    split at e
    · exact mo_fault_ok (d := d + 2) e
    · cases e) ?_
  exact px_o0)
set_option maxRecDepth 200000 in
theorem mo_number__32_ok {d : Nat} : ∀ (x3 : Int32) (h : pH) (q : Int32 × pH), mo_number__32 x3 h = some q → px_G (d + 4 + 1) (pX_RX11, prog_13_method_23_code, 4, (some .int)) 32 [none, none, none, some (.inl x3)] [] h q := by
  intro x3 h q e
  exact px_blk_ok (d := d + 4) (M := (pX_RX11, prog_13_method_23_code, 4, (some .int))) (C := mo_number__orc) (code := mo_number__code) (ld := []) (kl := []) (mo_number__orc_ok) pX_ok_RX11 mo_number__code_ok (px_k0) 25 32 _ _ h q e
set_option maxRecDepth 200000 in
theorem mo_number__ok {d : Nat} {x1 : Int32} {x2 : Int32} {h : pH} {q : Int32 × pH} (e : mo_number_ x1 x2 h = some q) : px_Con (d + 5) 195 [.inr (.inl 51), .inl x1, .inl x2] h q :=
  px_con (X := pX_RX11) (b := prog_13_method_23_code) (nL := 4) (rt := (some .int)) rfl rfl (Nat.le_of_ble_eq_true rfl) rfl (px_blk_ok (d := d + 4) (M := (pX_RX11, prog_13_method_23_code, 4, (some .int))) (C := mo_number__orc) (code := mo_number__code) (ld := [32]) (kl := [(32, fun ls st h => px_if (px_fit [0, 0, 0, 1] ls && px_fits [] st) (mo_number__32 (px_gi ls 3) h))]) (mo_number__orc_ok) pX_ok_RX11 mo_number__code_ok (px_k1 (px_ko (ts := [0, 0, 0, 1]) (ss := []) fun ls st h q e => mo_number__32_ok _ _ _ e) px_k0) 25 0 _ _ _ q e)
/-! WordsUnsaidModel.letter(CII)I -/
noncomputable def mo_letter_35 (h : pH) : pR :=
  px_bind (mo_fault (h 51 18) h) fun _ h2 =>
  some (px_c 0, h2)
noncomputable def mo_letter (x1 : Int32) (x2 : Int32) (x3 : Int32) (h : pH) : pR :=
  px_bind (mo_fine h) fun z1 h2 =>
  if z1 = 0 then
    some (px_c 0, h2)
  else
    px_bind (mo_here h2) fun z3 h4 =>
    px_bind (mo_in z3 x1 ((x1 + x2) - (px_c 1)) h4) fun z5 h6 =>
    if z5 = 0 then
      mo_letter_35 h6
    else
      px_bind (mo_here h6) fun z7 h8 =>
      if (z7 - x1) = x3 then
        mo_letter_35 h8
      else
        let h9 := px_w h8 51 18 ((h8 51 18) + (px_c 1))
        px_if (decide (0 ≤ h9 51 15) && Nat.blt (h9 51 15).toNatClampNeg px_N) <|
        px_if (px_ok 1 ((h9 51 15).toNatClampNeg) ((h9 51 18) - (px_c 1)) || px_ok 3 ((h9 51 15).toNatClampNeg) ((h9 51 18) - (px_c 1))) <|
        some ((h9 ((h9 51 15).toNatClampNeg) ((h9 51 18) - (px_c 1)).toNatClampNeg) - x1, h9)
def mo_letter_code : pCode := [(0, .aload_n 0, 1), (1, .invokevirtual 147, 3), (4, .ifCond .ne (5), 3), (7, .iconst 0, 1), (8, .ireturn, 1), (9, .aload_n 0, 1), (10, .invokevirtual 151, 3), (13, .iload_n 1, 1), (14, .iload_n 1, 1), (15, .iload_n 2, 1), (16, .iadd, 1), (17, .iconst 1, 1), (18, .isub, 1), (19, .invokestatic 115, 3), (22, .ifCond .eq (13), 3), (25, .aload_n 0, 1), (26, .invokevirtual 151, 3), (29, .iload_n 1, 1), (30, .isub, 1), (31, .iload_n 3, 1), (32, .if_icmp .ne (13), 3), (35, .aload_n 0, 1), (36, .aload_n 0, 1), (37, .getfield 141, 3), (40, .invokevirtual 159, 3), (43, .iconst 0, 1), (44, .ireturn, 1), (45, .aload_n 0, 1), (46, .dup, 1), (47, .getfield 141, 3), (50, .iconst 1, 1), (51, .iadd, 1), (52, .putfield 141, 3), (55, .aload_n 0, 1), (56, .getfield 132, 3), (59, .aload_n 0, 1), (60, .getfield 141, 3), (63, .iconst 1, 1), (64, .isub, 1), (65, .baload, 1), (66, .iload_n 1, 1), (67, .isub, 1), (68, .ireturn, 1)]
set_option maxRecDepth 200000 in
theorem mo_letter_code_ok : px_code prog_13_method_24_code mo_letter_code = true := by decide +kernel
noncomputable def mo_letter_orc : pC := px_orc [(190, fun a h => match a with
    | [.inr (.inl 51), .inl v1] => mo_fault v1 h
    | _ => none), (189, fun a h => match a with
    | [.inr (.inl 51)] => mo_fine h
    | _ => none), (188, fun a h => match a with
    | [.inr (.inl 51)] => mo_here h
    | _ => none), (175, fun a h => match a with
    | [.inl v0, .inl v1, .inl v2] => mo_in v0 v1 v2 h
    | _ => none)]
theorem mo_letter_orc_ok {d : Nat} : px_Or (d + 2) (mo_letter_orc) := px_orc_ok (by
  refine px_o1 (fun a h q e => by
    dsimp only at e
    split at e
    · exact mo_fault_ok (d := d + 0) e
    · cases e) ?_
  refine px_o1 (fun a h q e => by
    dsimp only at e
    split at e
    · exact mo_fine_ok (d := d + 1) e
    · cases e) ?_
  refine px_o1 (fun a h q e => by
    dsimp only at e
    split at e
    · exact mo_here_ok (d := d + 1) e
    · cases e) ?_
  refine px_o1 (fun a h q e => by
    dsimp only at e
    split at e
    · exact mo_in_ok (d := d + 1) e
    · cases e) ?_
  exact px_o0)
set_option maxRecDepth 200000 in
theorem mo_letter_35_ok {d : Nat} : ∀ (h : pH) (q : Int32 × pH), mo_letter_35 h = some q → px_G (d + 2 + 1) (pX_RX11, prog_13_method_24_code, 4, (some .int)) 35 [some (.inr (.inl 51)), none, none, none] [] h q := by
  intro h q e
  exact px_blk_ok (d := d + 2) (M := (pX_RX11, prog_13_method_24_code, 4, (some .int))) (C := mo_letter_orc) (code := mo_letter_code) (ld := []) (kl := []) (mo_letter_orc_ok) pX_ok_RX11 mo_letter_code_ok (px_k0) 48 35 _ _ h q e
set_option maxRecDepth 200000 in
theorem mo_letter_ok {d : Nat} {x1 : Int32} {x2 : Int32} {x3 : Int32} {h : pH} {q : Int32 × pH} (e : mo_letter x1 x2 x3 h = some q) : px_Con (d + 3) 196 [.inr (.inl 51), .inl x1, .inl x2, .inl x3] h q :=
  px_con (X := pX_RX11) (b := prog_13_method_24_code) (nL := 4) (rt := (some .int)) rfl rfl (Nat.le_of_ble_eq_true rfl) rfl (px_blk_ok (d := d + 2) (M := (pX_RX11, prog_13_method_24_code, 4, (some .int))) (C := mo_letter_orc) (code := mo_letter_code) (ld := [35]) (kl := [(35, fun ls st h => px_if (px_fit [61, 0, 0, 0] ls && px_fits [] st) (mo_letter_35 h))]) (mo_letter_orc_ok) pX_ok_RX11 mo_letter_code_ok (px_k1 (px_ko (ts := [61, 0, 0, 0]) (ss := []) fun ls st h q e => mo_letter_35_ok _ _ e) px_k0) 48 0 _ _ _ q e)
/-! WordsUnsaidModel.river()I -/
noncomputable def mo_river_187 : Nat → Int32 → Int32 → pH → pR
  | 0, _, _, _ => none
  | n + 1, x2, x3, h =>
    if x2 ≤ x3 then
      let h1 := px_w h 51 35 (px_c 0)
      let h2 := px_w h1 51 60 ((h1 51 60) + (px_c 1))
      some (x2, h2)
    else
      px_if (px_ok 0 60 x3) <|
      px_if (px_ok 0 53 x3) <|
      let h3 := px_w h 53 x3.toNatClampNeg (h 60 x3.toNatClampNeg)
      mo_river_187 n x2 (x3 + px_c 1) h3
noncomputable def mo_river_161 (x1 : Int32) (x2 : Int32) (h : pH) : pR :=
  px_bind (mo_fine h) fun z1 h2 =>
  if z1 = 0 then
    some ((px_c (-1)) - (h2 51 19), h2)
  else
    let h3 := px_w h2 51 1 x1
    let h4 := px_w h3 51 2 x2
    mo_river_187 px_F x2 (px_c 0) h4
noncomputable def mo_river_142 (x1 : Int32) (x2 : Int32) (h : pH) : pR :=
  if (h 51 16) ≤ (h 51 18) then
    mo_river_161 x1 x2 h
  else
    px_bind (mo_fault (h 51 18) h) fun _ h2 =>
    mo_river_161 x1 x2 h2
noncomputable def mo_river_129 (r63 : Int32 → Int32 → pH → pR) (x1 : Int32) (x2 : Int32) (s0 : Int32) (s2 : Int32) (h : pH) : pR :=
  px_bind (mo_number_ s0 (x1 - (px_c 1)) h) fun z1 h2 =>
  px_if (px_ok 0 60 s2) <|
  let h3 := px_w h2 60 s2.toNatClampNeg z1
  r63 x1 (x2 + px_c 1) h3
noncomputable def mo_river_63 : Nat → Int32 → Int32 → pH → pR
  | 0, _, _, _ => none
  | n + 1, x1, x2, h =>
    px_bind (mo_fine h) fun z1 h2 =>
    if z1 = 0 then
      mo_river_142 x1 x2 h2
    else
      px_bind (mo_here h2) fun z3 h4 =>
      if z3 = (px_c 44) then
        if x2 = (px_c 5) then
          px_bind (mo_fault (h4 51 18) h4) fun _ h6 =>
          mo_river_63 n x1 x2 h6
        else
          let h7 := px_w h4 51 18 ((h4 51 18) + (px_c 1))
          if x2 = 0 then
            mo_river_129 (mo_river_63 n) x1 x2 (px_c 1) x2 h7
          else
            px_if (px_ok 0 60 (x2 - (px_c 1))) <|
            mo_river_129 (mo_river_63 n) x1 x2 ((h7 60 (x2 - (px_c 1)).toNatClampNeg) + (px_c 1)) x2 h7
      else
        mo_river_142 x1 x2 h4
noncomputable def mo_river_26 : Nat → Int32 → pH → pR
  | 0, _, _ => none
  | n + 1, x1, h =>
    if (h 51 4) ≤ x1 then
      px_bind (mo_number_ (px_c 2) (px_c 60) h) fun z1 h2 =>
      mo_river_63 px_F z1 (px_c 0) h2
    else
      px_if (px_ok 0 52 x1) <|
      if (h 52 x1.toNatClampNeg) ≤ (px_c 1) then
        mo_river_26 n (x1 + px_c 1) h
      else
        some (px_c (-100), h)
noncomputable def mo_river (h : pH) : pR :=
  let h1 := px_w h 51 14 (px_c 0)
  px_bind (mo_begin 58 (h1 51 11) (px_c 80) h1) fun _ h3 =>
  let h4 := px_w h3 51 11 (px_c 0)
  mo_river_26 px_F (px_c 0) h4
def mo_river_code : pCode := [(0, .aload_n 0, 1), (1, .iconst 0, 1), (2, .putfield 106, 3), (5, .aload_n 0, 1), (6, .aload_n 0, 1), (7, .getfield 32, 3), (10, .aload_n 0, 1), (11, .getfield 129, 3), (14, .bipush (80), 2), (16, .invokevirtual 171, 3), (19, .aload_n 0, 1), (20, .iconst 0, 1), (21, .putfield 129, 3), (24, .iconst 0, 1), (25, .istore_n 1, 1), (26, .iload_n 1, 1), (27, .aload_n 0, 1), (28, .getfield 112, 3), (31, .if_icmp .ge (22), 3), (34, .aload_n 0, 1), (35, .getfield 9, 3), (38, .iload_n 1, 1), (39, .iaload, 1), (40, .iconst 1, 1), (41, .if_icmp .le (6), 3), (44, .bipush (-100), 2), (46, .ireturn, 1), (47, .iinc 1 (1), 3), (50, .goto (-24), 3), (53, .aload_n 0, 1), (54, .iconst 2, 1), (55, .bipush (60), 2), (57, .invokevirtual 175, 3), (60, .istore_n 1, 1), (61, .iconst 0, 1), (62, .istore_n 2, 1), (63, .aload_n 0, 1), (64, .invokevirtual 147, 3), (67, .ifCond .eq (75), 3), (70, .aload_n 0, 1), (71, .invokevirtual 151, 3), (74, .bipush (44), 2), (76, .if_icmp .ne (66), 3), (79, .iload_n 2, 1), (80, .iconst 5, 1), (81, .if_icmp .ne (14), 3), (84, .aload_n 0, 1), (85, .aload_n 0, 1), (86, .getfield 141, 3), (89, .invokevirtual 159, 3), (92, .goto (-29), 3), (95, .aload_n 0, 1), (96, .dup, 1), (97, .getfield 141, 3), (100, .iconst 1, 1), (101, .iadd, 1), (102, .putfield 141, 3), (105, .aload_n 0, 1), (106, .getfield 39, 3), (109, .iload_n 2, 1), (110, .aload_n 0, 1), (111, .iload_n 2, 1), (112, .ifCond .ne (7), 3), (115, .iconst 1, 1), (116, .goto (13), 3), (119, .aload_n 0, 1), (120, .getfield 39, 3), (123, .iload_n 2, 1), (124, .iconst 1, 1), (125, .isub, 1), (126, .iaload, 1), (127, .iconst 1, 1), (128, .iadd, 1), (129, .iload_n 1, 1), (130, .iconst 1, 1), (131, .isub, 1), (132, .invokevirtual 175, 3), (135, .iastore, 1), (136, .iinc 2 (1), 3), (139, .goto (-76), 3), (142, .aload_n 0, 1), (143, .getfield 141, 3), (146, .aload_n 0, 1), (147, .getfield 135, 3), (150, .if_icmp .ge (11), 3), (153, .aload_n 0, 1), (154, .aload_n 0, 1), (155, .getfield 141, 3), (158, .invokevirtual 159, 3), (161, .aload_n 0, 1), (162, .invokevirtual 147, 3), (165, .ifCond .ne (10), 3), (168, .iconst (-1), 1), (169, .aload_n 0, 1), (170, .getfield 144, 3), (173, .isub, 1), (174, .ireturn, 1), (175, .aload_n 0, 1), (176, .iload_n 1, 1), (177, .putfield 13, 3), (180, .aload_n 0, 1), (181, .iload_n 2, 1), (182, .putfield 126, 3), (185, .iconst 0, 1), (186, .istore_n 3, 1), (187, .iload_n 3, 1), (188, .iload_n 2, 1), (189, .if_icmp .ge (21), 3), (192, .aload_n 0, 1), (193, .getfield 17, 3), (196, .iload_n 3, 1), (197, .aload_n 0, 1), (198, .getfield 39, 3), (201, .iload_n 3, 1), (202, .iaload, 1), (203, .iastore, 1), (204, .iinc 3 (1), 3), (207, .goto (-20), 3), (210, .aload_n 0, 1), (211, .iconst 0, 1), (212, .putfield 177, 3), (215, .aload_n 0, 1), (216, .dup, 1), (217, .getfield 180, 3), (220, .iconst 1, 1), (221, .iadd, 1), (222, .putfield 180, 3), (225, .iload_n 2, 1), (226, .ireturn, 1)]
set_option maxRecDepth 200000 in
theorem mo_river_code_ok : px_code prog_13_method_25_code mo_river_code = true := by decide +kernel
noncomputable def mo_river_orc : pC := px_orc [(189, fun a h => match a with
    | [.inr (.inl 51)] => mo_fine h
    | _ => none), (190, fun a h => match a with
    | [.inr (.inl 51), .inl v1] => mo_fault v1 h
    | _ => none), (195, fun a h => match a with
    | [.inr (.inl 51), .inl v1, .inl v2] => mo_number_ v1 v2 h
    | _ => none), (188, fun a h => match a with
    | [.inr (.inl 51)] => mo_here h
    | _ => none), (187, fun a h => match a with
    | [.inr (.inl 51), .inr (.inl v1), .inl v2, .inl v3] => mo_begin v1 v2 v3 h
    | _ => none)]
theorem mo_river_orc_ok {d : Nat} : px_Or (d + 5) (mo_river_orc) := px_orc_ok (by
  refine px_o1 (fun a h q e => by
    dsimp only at e
    split at e
    · exact mo_fine_ok (d := d + 4) e
    · cases e) ?_
  refine px_o1 (fun a h q e => by
    dsimp only at e
    split at e
    · exact mo_fault_ok (d := d + 3) e
    · cases e) ?_
  refine px_o1 (fun a h q e => by
    dsimp only at e
    split at e
    · exact mo_number__ok (d := d + 0) e
    · cases e) ?_
  refine px_o1 (fun a h q e => by
    dsimp only at e
    split at e
    · exact mo_here_ok (d := d + 4) e
    · cases e) ?_
  refine px_o1 (fun a h q e => by
    dsimp only at e
    split at e
    · exact mo_begin_ok (d := d + 4) e
    · cases e) ?_
  exact px_o0)
set_option maxRecDepth 200000 in
theorem mo_river_187_ok {d : Nat} : ∀ (n : Nat) (x2 : Int32) (x3 : Int32) (h : pH) (q : Int32 × pH), mo_river_187 n x2 x3 h = some q → px_G (d + 5 + 1) (pX_RX11, prog_13_method_25_code, 4, (some .int)) 187 [some (.inr (.inl 51)), none, some (.inl x2), some (.inl x3)] [] h q := by
  intro n
  induction n with
  | zero =>
    intro x2 x3 h q e
    cases e
  | succ n ih =>
    intro x2 x3 h q e
    exact px_blk_ok (d := d + 5) (M := (pX_RX11, prog_13_method_25_code, 4, (some .int))) (C := mo_river_orc) (code := mo_river_code) (ld := [187]) (kl := [(187, fun ls st h => px_if (px_fit [61, 0, 1, 1] ls && px_fits [] st) (mo_river_187 n (px_gi ls 2) (px_gi ls 3) h))]) (mo_river_orc_ok) pX_ok_RX11 mo_river_code_ok (px_k1 (px_ko (ts := [61, 0, 1, 1]) (ss := []) fun ls st h q e => ih _ _ _ _ e) px_k0) 134 187 _ _ h q e
set_option maxRecDepth 200000 in
theorem mo_river_161_ok {d : Nat} : ∀ (x1 : Int32) (x2 : Int32) (h : pH) (q : Int32 × pH), mo_river_161 x1 x2 h = some q → px_G (d + 5 + 1) (pX_RX11, prog_13_method_25_code, 4, (some .int)) 161 [some (.inr (.inl 51)), some (.inl x1), some (.inl x2), none] [] h q := by
  intro x1 x2 h q e
  exact px_blk_ok (d := d + 5) (M := (pX_RX11, prog_13_method_25_code, 4, (some .int))) (C := mo_river_orc) (code := mo_river_code) (ld := [187]) (kl := [(187, fun ls st h => px_if (px_fit [61, 0, 1, 1] ls && px_fits [] st) (mo_river_187 px_F (px_gi ls 2) (px_gi ls 3) h))]) (mo_river_orc_ok) pX_ok_RX11 mo_river_code_ok (px_k1 (px_ko (ts := [61, 0, 1, 1]) (ss := []) fun ls st h q e => mo_river_187_ok _ _ _ _ _ e) px_k0) 134 161 _ _ h q e
set_option maxRecDepth 200000 in
theorem mo_river_142_ok {d : Nat} : ∀ (x1 : Int32) (x2 : Int32) (h : pH) (q : Int32 × pH), mo_river_142 x1 x2 h = some q → px_G (d + 5 + 1) (pX_RX11, prog_13_method_25_code, 4, (some .int)) 142 [some (.inr (.inl 51)), some (.inl x1), some (.inl x2), none] [] h q := by
  intro x1 x2 h q e
  exact px_blk_ok (d := d + 5) (M := (pX_RX11, prog_13_method_25_code, 4, (some .int))) (C := mo_river_orc) (code := mo_river_code) (ld := [161]) (kl := [(161, fun ls st h => px_if (px_fit [61, 1, 1, 0] ls && px_fits [] st) (mo_river_161 (px_gi ls 1) (px_gi ls 2) h))]) (mo_river_orc_ok) pX_ok_RX11 mo_river_code_ok (px_k1 (px_ko (ts := [61, 1, 1, 0]) (ss := []) fun ls st h q e => mo_river_161_ok _ _ _ _ e) px_k0) 134 142 _ _ h q e
set_option maxRecDepth 200000 in
theorem mo_river_129_ok {d : Nat} {r63 : Int32 → Int32 → pH → pR} (hr63 : ∀ (x1 : Int32) (x2 : Int32) (h : pH) (q : Int32 × pH), r63 x1 x2 h = some q → px_G (d + 5 + 1) (pX_RX11, prog_13_method_25_code, 4, (some .int)) 63 [some (.inr (.inl 51)), some (.inl x1), some (.inl x2), none] [] h q) : ∀ (x1 : Int32) (x2 : Int32) (s0 : Int32) (s2 : Int32) (h : pH) (q : Int32 × pH), mo_river_129 r63 x1 x2 s0 s2 h = some q → px_G (d + 5 + 1) (pX_RX11, prog_13_method_25_code, 4, (some .int)) 129 [some (.inr (.inl 51)), some (.inl x1), some (.inl x2), none] [.inl s0, .inr (.inl 51), .inl s2, .inr (.inl 60)] h q := by
  intro x1 x2 s0 s2 h q e
  exact px_blk_ok (d := d + 5) (M := (pX_RX11, prog_13_method_25_code, 4, (some .int))) (C := mo_river_orc) (code := mo_river_code) (ld := [63]) (kl := [(63, fun ls st h => px_if (px_fit [61, 1, 1, 0] ls && px_fits [] st) (r63 (px_gi ls 1) (px_gi ls 2) h))]) (mo_river_orc_ok) pX_ok_RX11 mo_river_code_ok (px_k1 (px_ko (ts := [61, 1, 1, 0]) (ss := []) fun ls st h q e => hr63 _ _ _ _ e) px_k0) 134 129 _ _ h q e
set_option maxRecDepth 200000 in
theorem mo_river_63_ok {d : Nat} : ∀ (n : Nat) (x1 : Int32) (x2 : Int32) (h : pH) (q : Int32 × pH), mo_river_63 n x1 x2 h = some q → px_G (d + 5 + 1) (pX_RX11, prog_13_method_25_code, 4, (some .int)) 63 [some (.inr (.inl 51)), some (.inl x1), some (.inl x2), none] [] h q := by
  intro n
  induction n with
  | zero =>
    intro x1 x2 h q e
    cases e
  | succ n ih =>
    intro x1 x2 h q e
    exact px_blk_ok (d := d + 5) (M := (pX_RX11, prog_13_method_25_code, 4, (some .int))) (C := mo_river_orc) (code := mo_river_code) (ld := [63, 129, 142]) (kl := [(63, fun ls st h => px_if (px_fit [61, 1, 1, 0] ls && px_fits [] st) (mo_river_63 n (px_gi ls 1) (px_gi ls 2) h)), (129, fun ls st h => px_if (px_fit [61, 1, 1, 0] ls && px_fits [1, 61, 1, 70] st) (mo_river_129 (mo_river_63 n) (px_gi ls 1) (px_gi ls 2) (px_si st 0) (px_si st 2) h)), (142, fun ls st h => px_if (px_fit [61, 1, 1, 0] ls && px_fits [] st) (mo_river_142 (px_gi ls 1) (px_gi ls 2) h))]) (mo_river_orc_ok) pX_ok_RX11 mo_river_code_ok (px_k1 (px_ko (ts := [61, 1, 1, 0]) (ss := []) fun ls st h q e => ih _ _ _ _ e) (px_k1 (px_ko (ts := [61, 1, 1, 0]) (ss := [1, 61, 1, 70]) fun ls st h q e => mo_river_129_ok ih _ _ _ _ _ _ e) (px_k1 (px_ko (ts := [61, 1, 1, 0]) (ss := []) fun ls st h q e => mo_river_142_ok _ _ _ _ e) px_k0))) 134 63 _ _ h q e
set_option maxRecDepth 200000 in
theorem mo_river_26_ok {d : Nat} : ∀ (n : Nat) (x1 : Int32) (h : pH) (q : Int32 × pH), mo_river_26 n x1 h = some q → px_G (d + 5 + 1) (pX_RX11, prog_13_method_25_code, 4, (some .int)) 26 [some (.inr (.inl 51)), some (.inl x1), none, none] [] h q := by
  intro n
  induction n with
  | zero =>
    intro x1 h q e
    cases e
  | succ n ih =>
    intro x1 h q e
    exact px_blk_ok (d := d + 5) (M := (pX_RX11, prog_13_method_25_code, 4, (some .int))) (C := mo_river_orc) (code := mo_river_code) (ld := [26, 63]) (kl := [(26, fun ls st h => px_if (px_fit [61, 1, 0, 0] ls && px_fits [] st) (mo_river_26 n (px_gi ls 1) h)), (63, fun ls st h => px_if (px_fit [61, 1, 1, 0] ls && px_fits [] st) (mo_river_63 px_F (px_gi ls 1) (px_gi ls 2) h))]) (mo_river_orc_ok) pX_ok_RX11 mo_river_code_ok (px_k1 (px_ko (ts := [61, 1, 0, 0]) (ss := []) fun ls st h q e => ih _ _ _ e) (px_k1 (px_ko (ts := [61, 1, 1, 0]) (ss := []) fun ls st h q e => mo_river_63_ok _ _ _ _ _ e) px_k0)) 134 26 _ _ h q e
set_option maxRecDepth 200000 in
theorem mo_river_ok {d : Nat} {h : pH} {q : Int32 × pH} (e : mo_river h = some q) : px_Con (d + 6) 197 [.inr (.inl 51)] h q :=
  px_con (X := pX_RX11) (b := prog_13_method_25_code) (nL := 4) (rt := (some .int)) rfl rfl (Nat.le_of_ble_eq_true rfl) rfl (px_blk_ok (d := d + 5) (M := (pX_RX11, prog_13_method_25_code, 4, (some .int))) (C := mo_river_orc) (code := mo_river_code) (ld := [26]) (kl := [(26, fun ls st h => px_if (px_fit [61, 1, 0, 0] ls && px_fits [] st) (mo_river_26 px_F (px_gi ls 1) h))]) (mo_river_orc_ok) pX_ok_RX11 mo_river_code_ok (px_k1 (px_ko (ts := [61, 1, 0, 0]) (ss := []) fun ls st h q e => mo_river_26_ok _ _ _ _ e) px_k0) 134 0 _ _ _ q e)
/-! WordsUnsaidModel.readLine()V -/
noncomputable def mo_readLine_251 (h : pH) : pR :=
  some (0, h)
noncomputable def mo_readLine_243 (h : pH) : pR :=
  px_bind (mo_fault (h 51 18) h) fun _ h2 =>
  mo_readLine_251 h2
noncomputable def mo_readLine_229 (s0 : Int32) (s1 : Int32) (h : pH) : pR :=
  px_if (px_ok 0 62 s1) <|
  let h1 := px_w h 62 s1.toNatClampNeg s0
  let h2 := px_w h1 51 24 ((h1 51 24) + (px_c 1))
  mo_readLine_251 h2
noncomputable def mo_readLine_96 (h : pH) : pR :=
  px_bind (mo_here h) fun z1 h2 =>
  if z1 = (px_c 116) then
    if (px_c 10) ≤ ((h2 51 6) + (h2 51 24)) then
      mo_readLine_243 h2
    else
      let y1_3 := (px_c 4) * (h2 51 24)
      let y2_4 := (h2 51 4) + (h2 51 23)
      let h5 := px_w h2 51 18 ((h2 51 18) + (px_c 1))
      px_bind (mo_letter (px_c 97) y2_4 (px_c (-1)) h5) fun z6 h7 =>
      px_if (px_ok 0 62 y1_3) <|
      let h8 := px_w h7 62 y1_3.toNatClampNeg z6
      px_bind (mo_number_ (px_c 1) (px_c 40) h8) fun z9 h10 =>
      px_if (px_ok 0 62 (y1_3 + (px_c 1))) <|
      let h11 := px_w h10 62 (y1_3 + (px_c 1)).toNatClampNeg z9
      px_bind (mo_need (px_c 42) h11) fun _ h13 =>
      px_bind (mo_digit (px_c 0) (px_c 9) h13) fun z14 h15 =>
      px_if (px_ok 0 62 (y1_3 + (px_c 2))) <|
      let h16 := px_w h15 62 (y1_3 + (px_c 2)).toNatClampNeg z14
      px_bind (mo_passes (px_c 62) h16) fun z17 h18 =>
      if z17 = 0 then
        mo_readLine_229 (px_c (-1)) (y1_3 + (px_c 3)) h18
      else
        px_if (px_ok 0 62 y1_3) <|
        px_bind (mo_letter (px_c 97) y2_4 (h18 62 y1_3.toNatClampNeg) h18) fun z19 h20 =>
        mo_readLine_229 z19 (y1_3 + (px_c 3)) h20
  else
    mo_readLine_243 h2
noncomputable def mo_readLine_82 (s0 : Int32) (s1 : Int32) (h : pH) : pR :=
  px_if (px_ok 0 61 s1) <|
  let h1 := px_w h 61 s1.toNatClampNeg s0
  let h2 := px_w h1 51 23 ((h1 51 23) + (px_c 1))
  mo_readLine_251 h2
noncomputable def mo_readLine (h : pH) : pR :=
  px_bind (mo_here h) fun z1 h2 =>
  if z1 = (px_c 112) then
    if (px_c 6) ≤ ((h2 51 4) + (h2 51 23)) then
      mo_readLine_96 h2
    else
      let h3 := px_w h2 51 18 ((h2 51 18) + (px_c 1))
      px_bind (mo_number_ (px_c 1) (px_c 99) h3) fun z4 h5 =>
      px_if (px_ok 0 61 ((px_c 2) * (h3 51 23))) <|
      let h6 := px_w h5 61 ((px_c 2) * (h3 51 23)).toNatClampNeg z4
      px_bind (mo_passes (px_c 64) h6) fun z7 h8 =>
      if z7 = 0 then
        mo_readLine_82 (px_c 0) (((px_c 2) * (h6 51 23)) + (px_c 1)) h8
      else
        px_bind (mo_digit (px_c 0) (px_c 1) h8) fun z9 h10 =>
        mo_readLine_82 z9 (((px_c 2) * (h6 51 23)) + (px_c 1)) h10
  else
    mo_readLine_96 h2
def mo_readLine_code : pCode := [(0, .aload_n 0, 1), (1, .invokevirtual 151, 3), (4, .bipush (112), 2), (6, .if_icmp .ne (90), 3), (9, .aload_n 0, 1), (10, .getfield 112, 3), (13, .aload_n 0, 1), (14, .getfield 183, 3), (17, .iadd, 1), (18, .bipush (6), 2), (20, .if_icmp .ge (76), 3), (23, .aload_n 0, 1), (24, .dup, 1), (25, .getfield 141, 3), (28, .iconst 1, 1), (29, .iadd, 1), (30, .putfield 141, 3), (33, .aload_n 0, 1), (34, .getfield 42, 3), (37, .iconst 2, 1), (38, .aload_n 0, 1), (39, .getfield 183, 3), (42, .imul, 1), (43, .aload_n 0, 1), (44, .iconst 1, 1), (45, .bipush (99), 2), (47, .invokevirtual 175, 3), (50, .iastore, 1), (51, .aload_n 0, 1), (52, .getfield 42, 3), (55, .iconst 2, 1), (56, .aload_n 0, 1), (57, .getfield 183, 3), (60, .imul, 1), (61, .iconst 1, 1), (62, .iadd, 1), (63, .aload_n 0, 1), (64, .bipush (64), 2), (66, .invokevirtual 155, 3), (69, .ifCond .eq (12), 3), (72, .aload_n 0, 1), (73, .iconst 0, 1), (74, .iconst 1, 1), (75, .invokevirtual 163, 3), (78, .goto (4), 3), (81, .iconst 0, 1), (82, .iastore, 1), (83, .aload_n 0, 1), (84, .dup, 1), (85, .getfield 183, 3), (88, .iconst 1, 1), (89, .iadd, 1), (90, .putfield 183, 3), (93, .goto (158), 3), (96, .aload_n 0, 1), (97, .invokevirtual 151, 3), (100, .bipush (116), 2), (102, .if_icmp .ne (141), 3), (105, .aload_n 0, 1), (106, .getfield 119, 3), (109, .aload_n 0, 1), (110, .getfield 186, 3), (113, .iadd, 1), (114, .bipush (10), 2), (116, .if_icmp .ge (127), 3), (119, .iconst 4, 1), (120, .aload_n 0, 1), (121, .getfield 186, 3), (124, .imul, 1), (125, .istore_n 1, 1), (126, .aload_n 0, 1), (127, .getfield 112, 3), (130, .aload_n 0, 1), (131, .getfield 183, 3), (134, .iadd, 1), (135, .istore_n 2, 1), (136, .aload_n 0, 1), (137, .dup, 1), (138, .getfield 141, 3), (141, .iconst 1, 1), (142, .iadd, 1), (143, .putfield 141, 3), (146, .aload_n 0, 1), (147, .getfield 45, 3), (150, .iload_n 1, 1), (151, .aload_n 0, 1), (152, .bipush (97), 2), (154, .iload_n 2, 1), (155, .iconst (-1), 1), (156, .invokevirtual 189, 3), (159, .iastore, 1), (160, .aload_n 0, 1), (161, .getfield 45, 3), (164, .iload_n 1, 1), (165, .iconst 1, 1), (166, .iadd, 1), (167, .aload_n 0, 1), (168, .iconst 1, 1), (169, .bipush (40), 2), (171, .invokevirtual 175, 3), (174, .iastore, 1), (175, .aload_n 0, 1), (176, .bipush (42), 2), (178, .invokevirtual 193, 3), (181, .aload_n 0, 1), (182, .getfield 45, 3), (185, .iload_n 1, 1), (186, .iconst 2, 1), (187, .iadd, 1), (188, .aload_n 0, 1), (189, .iconst 0, 1), (190, .bipush (9), 2), (192, .invokevirtual 163, 3), (195, .iastore, 1), (196, .aload_n 0, 1), (197, .getfield 45, 3), (200, .iload_n 1, 1), (201, .iconst 3, 1), (202, .iadd, 1), (203, .aload_n 0, 1), (204, .bipush (62), 2), (206, .invokevirtual 155, 3), (209, .ifCond .eq (19), 3), (212, .aload_n 0, 1), (213, .bipush (97), 2), (215, .iload_n 2, 1), (216, .aload_n 0, 1), (217, .getfield 45, 3), (220, .iload_n 1, 1), (221, .iaload, 1), (222, .invokevirtual 189, 3), (225, .goto (4), 3), (228, .iconst (-1), 1), (229, .iastore, 1), (230, .aload_n 0, 1), (231, .dup, 1), (232, .getfield 186, 3), (235, .iconst 1, 1), (236, .iadd, 1), (237, .putfield 186, 3), (240, .goto (11), 3), (243, .aload_n 0, 1), (244, .aload_n 0, 1), (245, .getfield 141, 3), (248, .invokevirtual 159, 3), (251, .return_, 1)]
set_option maxRecDepth 200000 in
theorem mo_readLine_code_ok : px_code prog_13_method_26_code mo_readLine_code = true := by decide +kernel
noncomputable def mo_readLine_orc : pC := px_orc [(190, fun a h => match a with
    | [.inr (.inl 51), .inl v1] => mo_fault v1 h
    | _ => none), (188, fun a h => match a with
    | [.inr (.inl 51)] => mo_here h
    | _ => none), (196, fun a h => match a with
    | [.inr (.inl 51), .inl v1, .inl v2, .inl v3] => mo_letter v1 v2 v3 h
    | _ => none), (195, fun a h => match a with
    | [.inr (.inl 51), .inl v1, .inl v2] => mo_number_ v1 v2 h
    | _ => none), (192, fun a h => match a with
    | [.inr (.inl 51), .inl v1] => mo_need v1 h
    | _ => none), (193, fun a h => match a with
    | [.inr (.inl 51), .inl v1, .inl v2] => mo_digit v1 v2 h
    | _ => none), (191, fun a h => match a with
    | [.inr (.inl 51), .inl v1] => mo_passes v1 h
    | _ => none)]
theorem mo_readLine_orc_ok {d : Nat} : px_Or (d + 5) (mo_readLine_orc) := px_orc_ok (by
  refine px_o1 (fun a h q e => by
    dsimp only at e
    split at e
    · exact mo_fault_ok (d := d + 3) e
    · cases e) ?_
  refine px_o1 (fun a h q e => by
    dsimp only at e
    split at e
    · exact mo_here_ok (d := d + 4) e
    · cases e) ?_
  refine px_o1 (fun a h q e => by
    dsimp only at e
    split at e
    · exact mo_letter_ok (d := d + 2) e
    · cases e) ?_
  refine px_o1 (fun a h q e => by
    dsimp only at e
    split at e
    · exact mo_number__ok (d := d + 0) e
    · cases e) ?_
  refine px_o1 (fun a h q e => by
    dsimp only at e
    split at e
    · exact mo_need_ok (d := d + 2) e
    · cases e) ?_
  refine px_o1 (fun a h q e => by
    dsimp only at e
    split at e
    · exact mo_digit_ok (d := d + 2) e
    · cases e) ?_
  refine px_o1 (fun a h q e => by
    dsimp only at e
    split at e
    · exact mo_passes_ok (d := d + 3) e
    · cases e) ?_
  exact px_o0)
set_option maxRecDepth 200000 in
theorem mo_readLine_251_ok {d : Nat} : ∀ (h : pH) (q : Int32 × pH), mo_readLine_251 h = some q → px_G (d + 5 + 1) (pX_RX11, prog_13_method_26_code, 3, none) 251 [none, none, none] [] h q := by
  intro h q e
  exact px_blk_ok (d := d + 5) (M := (pX_RX11, prog_13_method_26_code, 3, none)) (C := mo_readLine_orc) (code := mo_readLine_code) (ld := []) (kl := []) (mo_readLine_orc_ok) pX_ok_RX11 mo_readLine_code_ok (px_k0) 151 251 _ _ h q e
set_option maxRecDepth 200000 in
theorem mo_readLine_243_ok {d : Nat} : ∀ (h : pH) (q : Int32 × pH), mo_readLine_243 h = some q → px_G (d + 5 + 1) (pX_RX11, prog_13_method_26_code, 3, none) 243 [some (.inr (.inl 51)), none, none] [] h q := by
  intro h q e
  exact px_blk_ok (d := d + 5) (M := (pX_RX11, prog_13_method_26_code, 3, none)) (C := mo_readLine_orc) (code := mo_readLine_code) (ld := [251]) (kl := [(251, fun ls st h => px_if (px_fit [0, 0, 0] ls && px_fits [] st) (mo_readLine_251 h))]) (mo_readLine_orc_ok) pX_ok_RX11 mo_readLine_code_ok (px_k1 (px_ko (ts := [0, 0, 0]) (ss := []) fun ls st h q e => mo_readLine_251_ok _ _ e) px_k0) 151 243 _ _ h q e
set_option maxRecDepth 200000 in
theorem mo_readLine_229_ok {d : Nat} : ∀ (s0 : Int32) (s1 : Int32) (h : pH) (q : Int32 × pH), mo_readLine_229 s0 s1 h = some q → px_G (d + 5 + 1) (pX_RX11, prog_13_method_26_code, 3, none) 229 [some (.inr (.inl 51)), none, none] [.inl s0, .inl s1, .inr (.inl 62)] h q := by
  intro s0 s1 h q e
  exact px_blk_ok (d := d + 5) (M := (pX_RX11, prog_13_method_26_code, 3, none)) (C := mo_readLine_orc) (code := mo_readLine_code) (ld := [251]) (kl := [(251, fun ls st h => px_if (px_fit [0, 0, 0] ls && px_fits [] st) (mo_readLine_251 h))]) (mo_readLine_orc_ok) pX_ok_RX11 mo_readLine_code_ok (px_k1 (px_ko (ts := [0, 0, 0]) (ss := []) fun ls st h q e => mo_readLine_251_ok _ _ e) px_k0) 151 229 _ _ h q e
set_option maxRecDepth 200000 in
theorem mo_readLine_96_ok {d : Nat} : ∀ (h : pH) (q : Int32 × pH), mo_readLine_96 h = some q → px_G (d + 5 + 1) (pX_RX11, prog_13_method_26_code, 3, none) 96 [some (.inr (.inl 51)), none, none] [] h q := by
  intro h q e
  exact px_blk_ok (d := d + 5) (M := (pX_RX11, prog_13_method_26_code, 3, none)) (C := mo_readLine_orc) (code := mo_readLine_code) (ld := [229, 243]) (kl := [(229, fun ls st h => px_if (px_fit [61, 0, 0] ls && px_fits [1, 1, 72] st) (mo_readLine_229 (px_si st 0) (px_si st 1) h)), (243, fun ls st h => px_if (px_fit [61, 0, 0] ls && px_fits [] st) (mo_readLine_243 h))]) (mo_readLine_orc_ok) pX_ok_RX11 mo_readLine_code_ok (px_k1 (px_ko (ts := [61, 0, 0]) (ss := [1, 1, 72]) fun ls st h q e => mo_readLine_229_ok _ _ _ _ e) (px_k1 (px_ko (ts := [61, 0, 0]) (ss := []) fun ls st h q e => mo_readLine_243_ok _ _ e) px_k0)) 151 96 _ _ h q e
set_option maxRecDepth 200000 in
theorem mo_readLine_82_ok {d : Nat} : ∀ (s0 : Int32) (s1 : Int32) (h : pH) (q : Int32 × pH), mo_readLine_82 s0 s1 h = some q → px_G (d + 5 + 1) (pX_RX11, prog_13_method_26_code, 3, none) 82 [some (.inr (.inl 51)), none, none] [.inl s0, .inl s1, .inr (.inl 61)] h q := by
  intro s0 s1 h q e
  exact px_blk_ok (d := d + 5) (M := (pX_RX11, prog_13_method_26_code, 3, none)) (C := mo_readLine_orc) (code := mo_readLine_code) (ld := [251]) (kl := [(251, fun ls st h => px_if (px_fit [0, 0, 0] ls && px_fits [] st) (mo_readLine_251 h))]) (mo_readLine_orc_ok) pX_ok_RX11 mo_readLine_code_ok (px_k1 (px_ko (ts := [0, 0, 0]) (ss := []) fun ls st h q e => mo_readLine_251_ok _ _ e) px_k0) 151 82 _ _ h q e
set_option maxRecDepth 200000 in
theorem mo_readLine_ok {d : Nat} {h : pH} {q : Int32 × pH} (e : mo_readLine h = some q) : px_Con (d + 6) 198 [.inr (.inl 51)] h q :=
  px_con (X := pX_RX11) (b := prog_13_method_26_code) (nL := 3) (rt := none) rfl rfl (Nat.le_of_ble_eq_true rfl) rfl (px_blk_ok (d := d + 5) (M := (pX_RX11, prog_13_method_26_code, 3, none)) (C := mo_readLine_orc) (code := mo_readLine_code) (ld := [82, 96]) (kl := [(82, fun ls st h => px_if (px_fit [61, 0, 0] ls && px_fits [1, 1, 71] st) (mo_readLine_82 (px_si st 0) (px_si st 1) h)), (96, fun ls st h => px_if (px_fit [61, 0, 0] ls && px_fits [] st) (mo_readLine_96 h))]) (mo_readLine_orc_ok) pX_ok_RX11 mo_readLine_code_ok (px_k1 (px_ko (ts := [61, 0, 0]) (ss := [1, 1, 71]) fun ls st h q e => mo_readLine_82_ok _ _ _ _ e) (px_k1 (px_ko (ts := [61, 0, 0]) (ss := []) fun ls st h q e => mo_readLine_96_ok _ _ e) px_k0)) 151 0 _ _ _ q e)
/-! WordsUnsaidModel.house()I -/
noncomputable def mo_house_180 : Nat → Int32 → pH → pR
  | 0, _, _ => none
  | n + 1, x2, h =>
    if (h 51 24) ≤ x2 then
      let h1 := px_w h 51 35 (px_c 0)
      let h2 := px_w h1 51 60 ((h1 51 60) + (px_c 1))
      some ((h2 51 23) + (h2 51 24), h2)
    else
      px_if (px_ok 0 62 (((px_c 4) * x2) + (px_c 1))) <|
      px_if (px_ok 0 55 (h 51 6)) <|
      let h3 := px_w h 55 (h 51 6).toNatClampNeg (h 62 (((px_c 4) * x2) + (px_c 1)).toNatClampNeg)
      px_if (px_ok 0 62 (((px_c 4) * x2) + (px_c 2))) <|
      px_if (px_ok 0 56 (h3 51 6)) <|
      let h4 := px_w h3 56 (h3 51 6).toNatClampNeg (h3 62 (((px_c 4) * x2) + (px_c 2)).toNatClampNeg)
      px_if (px_ok 0 62 (((px_c 4) * x2) + (px_c 3))) <|
      px_if (px_ok 0 57 (h4 51 6)) <|
      let h5 := px_w h4 57 (h4 51 6).toNatClampNeg (h4 62 (((px_c 4) * x2) + (px_c 3)).toNatClampNeg)
      px_if (px_ok 0 62 (((px_c 4) * x2) + (px_c 1))) <|
      px_if (px_ok 0 52 ((px_c 12) + (h5 51 6))) <|
      let h6 := px_w h5 52 ((px_c 12) + (h5 51 6)).toNatClampNeg (h5 62 (((px_c 4) * x2) + (px_c 1)).toNatClampNeg)
      px_if (px_ok 0 52 ((px_c 22) + (h6 51 6))) <|
      let h7 := px_w h6 52 ((px_c 22) + (h6 51 6)).toNatClampNeg (px_c 0)
      px_if (px_ok 0 62 ((px_c 4) * x2)) <|
      px_if (px_ok 0 52 ((px_c 32) + (h7 51 6))) <|
      let h8 := px_w h7 52 ((px_c 32) + (h7 51 6)).toNatClampNeg (h7 62 ((px_c 4) * x2).toNatClampNeg)
      px_if (px_ok 0 62 ((px_c 4) * x2)) <|
      px_if (px_ok 0 52 ((px_c 42) + (h8 51 6))) <|
      let h9 := px_w h8 52 ((px_c 42) + (h8 51 6)).toNatClampNeg ((px_c 1) <<< ((h8 62 ((px_c 4) * x2).toNatClampNeg) &&& 31))
      let h10 := px_w h9 51 6 ((h9 51 6) + (px_c 1))
      mo_house_180 n (x2 + px_c 1) h10
noncomputable def mo_house_105 : Nat → Int32 → pH → pR
  | 0, _, _ => none
  | n + 1, x2, h =>
    if (h 51 23) ≤ x2 then
      mo_house_180 px_F (px_c 0) h
    else
      px_if (px_ok 0 61 ((px_c 2) * x2)) <|
      px_if (px_ok 0 54 (h 51 4)) <|
      let h1 := px_w h 54 (h 51 4).toNatClampNeg (h 61 ((px_c 2) * x2).toNatClampNeg)
      px_if (px_ok 0 61 (((px_c 2) * x2) + (px_c 1))) <|
      px_if (px_ok 0 52 (h1 51 4)) <|
      let h2 := px_w h1 52 (h1 51 4).toNatClampNeg (h1 61 (((px_c 2) * x2) + (px_c 1)).toNatClampNeg)
      px_if (px_ok 0 52 ((px_c 6) + (h2 51 4))) <|
      let h3 := px_w h2 52 ((px_c 6) + (h2 51 4)).toNatClampNeg (px_c 5)
      let h4 := px_w h3 51 4 ((h3 51 4) + (px_c 1))
      mo_house_105 n (x2 + px_c 1) h4
noncomputable def mo_house_89 (h : pH) : pR :=
  px_bind (mo_fine h) fun z1 h2 =>
  if z1 = 0 then
    some ((px_c (-1)) - (h2 51 19), h2)
  else
    mo_house_105 px_F (px_c 0) h2
noncomputable def mo_house_70 (h : pH) : pR :=
  if (h 51 16) ≤ (h 51 18) then
    mo_house_89 h
  else
    px_bind (mo_fault (h 51 18) h) fun _ h2 =>
    mo_house_89 h2
noncomputable def mo_house_45 : Nat → Int32 → pH → pR
  | 0, _, _ => none
  | n + 1, x1, h =>
    if x1 = 0 then
      mo_house_70 h
    else
      px_bind (mo_fine h) fun z1 h2 =>
      if z1 = 0 then
        mo_house_70 h2
      else
        px_bind (mo_readLine h2) fun _ h4 =>
        px_bind (mo_passes (px_c 59) h4) fun z5 h6 =>
        mo_house_45 n z5 h6
noncomputable def mo_house (h : pH) : pR :=
  let h1 := px_w h 51 14 (px_c 0)
  px_bind (mo_begin 58 (h1 51 11) (px_c 76) h1) fun _ h3 =>
  let h4 := px_w h3 51 11 (px_c 0)
  if (h4 51 16) = 0 then
    some (px_c 0, h4)
  else
    let h5 := px_w h4 51 23 (px_c 0)
    let h6 := px_w h5 51 24 (px_c 0)
    mo_house_45 px_F (px_c 1) h6
def mo_house_code : pCode := [(0, .aload_n 0, 1), (1, .iconst 0, 1), (2, .putfield 106, 3), (5, .aload_n 0, 1), (6, .aload_n 0, 1), (7, .getfield 32, 3), (10, .aload_n 0, 1), (11, .getfield 129, 3), (14, .bipush (76), 2), (16, .invokevirtual 171, 3), (19, .aload_n 0, 1), (20, .iconst 0, 1), (21, .putfield 129, 3), (24, .aload_n 0, 1), (25, .getfield 135, 3), (28, .ifCond .ne (5), 3), (31, .iconst 0, 1), (32, .ireturn, 1), (33, .aload_n 0, 1), (34, .iconst 0, 1), (35, .putfield 183, 3), (38, .aload_n 0, 1), (39, .iconst 0, 1), (40, .putfield 186, 3), (43, .iconst 1, 1), (44, .istore_n 1, 1), (45, .iload_n 1, 1), (46, .ifCond .eq (24), 3), (49, .aload_n 0, 1), (50, .invokevirtual 147, 3), (53, .ifCond .eq (17), 3), (56, .aload_n 0, 1), (57, .invokevirtual 197, 3), (60, .aload_n 0, 1), (61, .bipush (59), 2), (63, .invokevirtual 155, 3), (66, .istore_n 1, 1), (67, .goto (-22), 3), (70, .aload_n 0, 1), (71, .getfield 141, 3), (74, .aload_n 0, 1), (75, .getfield 135, 3), (78, .if_icmp .ge (11), 3), (81, .aload_n 0, 1), (82, .aload_n 0, 1), (83, .getfield 141, 3), (86, .invokevirtual 159, 3), (89, .aload_n 0, 1), (90, .invokevirtual 147, 3), (93, .ifCond .ne (10), 3), (96, .iconst (-1), 1), (97, .aload_n 0, 1), (98, .getfield 144, 3), (101, .isub, 1), (102, .ireturn, 1), (103, .iconst 0, 1), (104, .istore_n 2, 1), (105, .iload_n 2, 1), (106, .aload_n 0, 1), (107, .getfield 183, 3), (110, .if_icmp .ge (68), 3), (113, .aload_n 0, 1), (114, .getfield 20, 3), (117, .aload_n 0, 1), (118, .getfield 112, 3), (121, .aload_n 0, 1), (122, .getfield 42, 3), (125, .iconst 2, 1), (126, .iload_n 2, 1), (127, .imul, 1), (128, .iaload, 1), (129, .iastore, 1), (130, .aload_n 0, 1), (131, .getfield 9, 3), (134, .aload_n 0, 1), (135, .getfield 112, 3), (138, .aload_n 0, 1), (139, .getfield 42, 3), (142, .iconst 2, 1), (143, .iload_n 2, 1), (144, .imul, 1), (145, .iconst 1, 1), (146, .iadd, 1), (147, .iaload, 1), (148, .iastore, 1), (149, .aload_n 0, 1), (150, .getfield 9, 3), (153, .bipush (6), 2), (155, .aload_n 0, 1), (156, .getfield 112, 3), (159, .iadd, 1), (160, .iconst 5, 1), (161, .iastore, 1), (162, .aload_n 0, 1), (163, .dup, 1), (164, .getfield 112, 3), (167, .iconst 1, 1), (168, .iadd, 1), (169, .putfield 112, 3), (172, .iinc 2 (1), 3), (175, .goto (-70), 3), (178, .iconst 0, 1), (179, .istore_n 2, 1), (180, .iload_n 2, 1), (181, .aload_n 0, 1), (182, .getfield 186, 3), (185, .if_icmp .ge (153), 3), (188, .aload_n 0, 1), (189, .getfield 23, 3), (192, .aload_n 0, 1), (193, .getfield 119, 3), (196, .aload_n 0, 1), (197, .getfield 45, 3), (200, .iconst 4, 1), (201, .iload_n 2, 1), (202, .imul, 1), (203, .iconst 1, 1), (204, .iadd, 1), (205, .iaload, 1), (206, .iastore, 1), (207, .aload_n 0, 1), (208, .getfield 26, 3), (211, .aload_n 0, 1), (212, .getfield 119, 3), (215, .aload_n 0, 1), (216, .getfield 45, 3), (219, .iconst 4, 1), (220, .iload_n 2, 1), (221, .imul, 1), (222, .iconst 2, 1), (223, .iadd, 1), (224, .iaload, 1), (225, .iastore, 1), (226, .aload_n 0, 1), (227, .getfield 29, 3), (230, .aload_n 0, 1), (231, .getfield 119, 3), (234, .aload_n 0, 1), (235, .getfield 45, 3), (238, .iconst 4, 1), (239, .iload_n 2, 1), (240, .imul, 1), (241, .iconst 3, 1), (242, .iadd, 1), (243, .iaload, 1), (244, .iastore, 1), (245, .aload_n 0, 1), (246, .getfield 9, 3), (249, .bipush (12), 2), (251, .aload_n 0, 1), (252, .getfield 119, 3), (255, .iadd, 1), (256, .aload_n 0, 1), (257, .getfield 45, 3), (260, .iconst 4, 1), (261, .iload_n 2, 1), (262, .imul, 1), (263, .iconst 1, 1), (264, .iadd, 1), (265, .iaload, 1), (266, .iastore, 1), (267, .aload_n 0, 1), (268, .getfield 9, 3), (271, .bipush (22), 2), (273, .aload_n 0, 1), (274, .getfield 119, 3), (277, .iadd, 1), (278, .iconst 0, 1), (279, .iastore, 1), (280, .aload_n 0, 1), (281, .getfield 9, 3), (284, .bipush (32), 2), (286, .aload_n 0, 1), (287, .getfield 119, 3), (290, .iadd, 1), (291, .aload_n 0, 1), (292, .getfield 45, 3), (295, .iconst 4, 1), (296, .iload_n 2, 1), (297, .imul, 1), (298, .iaload, 1), (299, .iastore, 1), (300, .aload_n 0, 1), (301, .getfield 9, 3), (304, .bipush (42), 2), (306, .aload_n 0, 1), (307, .getfield 119, 3), (310, .iadd, 1), (311, .iconst 1, 1), (312, .aload_n 0, 1), (313, .getfield 45, 3), (316, .iconst 4, 1), (317, .iload_n 2, 1), (318, .imul, 1), (319, .iaload, 1), (320, .ishl, 1), (321, .iastore, 1), (322, .aload_n 0, 1), (323, .dup, 1), (324, .getfield 119, 3), (327, .iconst 1, 1), (328, .iadd, 1), (329, .putfield 119, 3), (332, .iinc 2 (1), 3), (335, .goto (-155), 3), (338, .aload_n 0, 1), (339, .iconst 0, 1), (340, .putfield 177, 3), (343, .aload_n 0, 1), (344, .dup, 1), (345, .getfield 180, 3), (348, .iconst 1, 1), (349, .iadd, 1), (350, .putfield 180, 3), (353, .aload_n 0, 1), (354, .getfield 183, 3), (357, .aload_n 0, 1), (358, .getfield 186, 3), (361, .iadd, 1), (362, .ireturn, 1)]
set_option maxRecDepth 200000 in
theorem mo_house_code_ok : px_code prog_13_method_27_code mo_house_code = true := by decide +kernel
noncomputable def mo_house_orc : pC := px_orc [(189, fun a h => match a with
    | [.inr (.inl 51)] => mo_fine h
    | _ => none), (190, fun a h => match a with
    | [.inr (.inl 51), .inl v1] => mo_fault v1 h
    | _ => none), (198, fun a h => match a with
    | [.inr (.inl 51)] => mo_readLine h
    | _ => none), (191, fun a h => match a with
    | [.inr (.inl 51), .inl v1] => mo_passes v1 h
    | _ => none), (187, fun a h => match a with
    | [.inr (.inl 51), .inr (.inl v1), .inl v2, .inl v3] => mo_begin v1 v2 v3 h
    | _ => none)]
theorem mo_house_orc_ok {d : Nat} : px_Or (d + 6) (mo_house_orc) := px_orc_ok (by
  refine px_o1 (fun a h q e => by
    dsimp only at e
    split at e
    · exact mo_fine_ok (d := d + 5) e
    · cases e) ?_
  refine px_o1 (fun a h q e => by
    dsimp only at e
    split at e
    · exact mo_fault_ok (d := d + 4) e
    · cases e) ?_
  refine px_o1 (fun a h q e => by
    dsimp only at e
    split at e
    · exact mo_readLine_ok (d := d + 0) e
    · cases e) ?_
  refine px_o1 (fun a h q e => by
    dsimp only at e
    split at e
    · exact mo_passes_ok (d := d + 4) e
    · cases e) ?_
  refine px_o1 (fun a h q e => by
    dsimp only at e
    split at e
    · exact mo_begin_ok (d := d + 5) e
    · cases e) ?_
  exact px_o0)
set_option maxRecDepth 200000 in
theorem mo_house_180_ok {d : Nat} : ∀ (n : Nat) (x2 : Int32) (h : pH) (q : Int32 × pH), mo_house_180 n x2 h = some q → px_G (d + 6 + 1) (pX_RX11, prog_13_method_27_code, 3, (some .int)) 180 [some (.inr (.inl 51)), none, some (.inl x2)] [] h q := by
  intro n
  induction n with
  | zero =>
    intro x2 h q e
    cases e
  | succ n ih =>
    intro x2 h q e
    exact px_blk_ok (d := d + 6) (M := (pX_RX11, prog_13_method_27_code, 3, (some .int))) (C := mo_house_orc) (code := mo_house_code) (ld := [180]) (kl := [(180, fun ls st h => px_if (px_fit [61, 0, 1] ls && px_fits [] st) (mo_house_180 n (px_gi ls 2) h))]) (mo_house_orc_ok) pX_ok_RX11 mo_house_code_ok (px_k1 (px_ko (ts := [61, 0, 1]) (ss := []) fun ls st h q e => ih _ _ _ e) px_k0) 225 180 _ _ h q e
set_option maxRecDepth 200000 in
theorem mo_house_105_ok {d : Nat} : ∀ (n : Nat) (x2 : Int32) (h : pH) (q : Int32 × pH), mo_house_105 n x2 h = some q → px_G (d + 6 + 1) (pX_RX11, prog_13_method_27_code, 3, (some .int)) 105 [some (.inr (.inl 51)), none, some (.inl x2)] [] h q := by
  intro n
  induction n with
  | zero =>
    intro x2 h q e
    cases e
  | succ n ih =>
    intro x2 h q e
    exact px_blk_ok (d := d + 6) (M := (pX_RX11, prog_13_method_27_code, 3, (some .int))) (C := mo_house_orc) (code := mo_house_code) (ld := [105, 180]) (kl := [(105, fun ls st h => px_if (px_fit [61, 0, 1] ls && px_fits [] st) (mo_house_105 n (px_gi ls 2) h)), (180, fun ls st h => px_if (px_fit [61, 0, 1] ls && px_fits [] st) (mo_house_180 px_F (px_gi ls 2) h))]) (mo_house_orc_ok) pX_ok_RX11 mo_house_code_ok (px_k1 (px_ko (ts := [61, 0, 1]) (ss := []) fun ls st h q e => ih _ _ _ e) (px_k1 (px_ko (ts := [61, 0, 1]) (ss := []) fun ls st h q e => mo_house_180_ok _ _ _ _ e) px_k0)) 225 105 _ _ h q e
set_option maxRecDepth 200000 in
theorem mo_house_89_ok {d : Nat} : ∀ (h : pH) (q : Int32 × pH), mo_house_89 h = some q → px_G (d + 6 + 1) (pX_RX11, prog_13_method_27_code, 3, (some .int)) 89 [some (.inr (.inl 51)), none, none] [] h q := by
  intro h q e
  exact px_blk_ok (d := d + 6) (M := (pX_RX11, prog_13_method_27_code, 3, (some .int))) (C := mo_house_orc) (code := mo_house_code) (ld := [105]) (kl := [(105, fun ls st h => px_if (px_fit [61, 0, 1] ls && px_fits [] st) (mo_house_105 px_F (px_gi ls 2) h))]) (mo_house_orc_ok) pX_ok_RX11 mo_house_code_ok (px_k1 (px_ko (ts := [61, 0, 1]) (ss := []) fun ls st h q e => mo_house_105_ok _ _ _ _ e) px_k0) 225 89 _ _ h q e
set_option maxRecDepth 200000 in
theorem mo_house_70_ok {d : Nat} : ∀ (h : pH) (q : Int32 × pH), mo_house_70 h = some q → px_G (d + 6 + 1) (pX_RX11, prog_13_method_27_code, 3, (some .int)) 70 [some (.inr (.inl 51)), none, none] [] h q := by
  intro h q e
  exact px_blk_ok (d := d + 6) (M := (pX_RX11, prog_13_method_27_code, 3, (some .int))) (C := mo_house_orc) (code := mo_house_code) (ld := [89]) (kl := [(89, fun ls st h => px_if (px_fit [61, 0, 0] ls && px_fits [] st) (mo_house_89 h))]) (mo_house_orc_ok) pX_ok_RX11 mo_house_code_ok (px_k1 (px_ko (ts := [61, 0, 0]) (ss := []) fun ls st h q e => mo_house_89_ok _ _ e) px_k0) 225 70 _ _ h q e
set_option maxRecDepth 200000 in
theorem mo_house_45_ok {d : Nat} : ∀ (n : Nat) (x1 : Int32) (h : pH) (q : Int32 × pH), mo_house_45 n x1 h = some q → px_G (d + 6 + 1) (pX_RX11, prog_13_method_27_code, 3, (some .int)) 45 [some (.inr (.inl 51)), some (.inl x1), none] [] h q := by
  intro n
  induction n with
  | zero =>
    intro x1 h q e
    cases e
  | succ n ih =>
    intro x1 h q e
    exact px_blk_ok (d := d + 6) (M := (pX_RX11, prog_13_method_27_code, 3, (some .int))) (C := mo_house_orc) (code := mo_house_code) (ld := [45, 70]) (kl := [(45, fun ls st h => px_if (px_fit [61, 1, 0] ls && px_fits [] st) (mo_house_45 n (px_gi ls 1) h)), (70, fun ls st h => px_if (px_fit [61, 0, 0] ls && px_fits [] st) (mo_house_70 h))]) (mo_house_orc_ok) pX_ok_RX11 mo_house_code_ok (px_k1 (px_ko (ts := [61, 1, 0]) (ss := []) fun ls st h q e => ih _ _ _ e) (px_k1 (px_ko (ts := [61, 0, 0]) (ss := []) fun ls st h q e => mo_house_70_ok _ _ e) px_k0)) 225 45 _ _ h q e
set_option maxRecDepth 200000 in
theorem mo_house_ok {d : Nat} {h : pH} {q : Int32 × pH} (e : mo_house h = some q) : px_Con (d + 7) 199 [.inr (.inl 51)] h q :=
  px_con (X := pX_RX11) (b := prog_13_method_27_code) (nL := 3) (rt := (some .int)) rfl rfl (Nat.le_of_ble_eq_true rfl) rfl (px_blk_ok (d := d + 6) (M := (pX_RX11, prog_13_method_27_code, 3, (some .int))) (C := mo_house_orc) (code := mo_house_code) (ld := [45]) (kl := [(45, fun ls st h => px_if (px_fit [61, 1, 0] ls && px_fits [] st) (mo_house_45 px_F (px_gi ls 1) h))]) (mo_house_orc_ok) pX_ok_RX11 mo_house_code_ok (px_k1 (px_ko (ts := [61, 1, 0]) (ss := []) fun ls st h q e => mo_house_45_ok _ _ _ _ e) px_k0) 225 0 _ _ _ q e)
/-! WordsUnsaidModel.letterOf(I)I -/
noncomputable def mo_letterOf_72 (s0 : Int32) (h : pH) : pR :=
  some (s0, h)
noncomputable def mo_letterOf (x0 : Int32) (h : pH) : pR :=
  if x0 = (px_c 112) then
    mo_letterOf_72 (px_c 0) h
  else
    if x0 = (px_c 116) then
      mo_letterOf_72 (px_c 1) h
    else
      if x0 = (px_c 119) then
        mo_letterOf_72 (px_c 2) h
      else
        if x0 = (px_c 121) then
          mo_letterOf_72 (px_c 3) h
        else
          if x0 = (px_c 110) then
            mo_letterOf_72 (px_c 4) h
          else
            if x0 = (px_c 105) then
              mo_letterOf_72 (px_c 5) h
            else
              if x0 = (px_c 111) then
                mo_letterOf_72 (px_c 6) h
              else
                mo_letterOf_72 (px_c (-1)) h
def mo_letterOf_code : pCode := [(0, .iload_n 0, 1), (1, .bipush (112), 2), (3, .if_icmp .ne (7), 3), (6, .iconst 0, 1), (7, .goto (65), 3), (10, .iload_n 0, 1), (11, .bipush (116), 2), (13, .if_icmp .ne (7), 3), (16, .iconst 1, 1), (17, .goto (55), 3), (20, .iload_n 0, 1), (21, .bipush (119), 2), (23, .if_icmp .ne (7), 3), (26, .iconst 2, 1), (27, .goto (45), 3), (30, .iload_n 0, 1), (31, .bipush (121), 2), (33, .if_icmp .ne (7), 3), (36, .iconst 3, 1), (37, .goto (35), 3), (40, .iload_n 0, 1), (41, .bipush (110), 2), (43, .if_icmp .ne (7), 3), (46, .iconst 4, 1), (47, .goto (25), 3), (50, .iload_n 0, 1), (51, .bipush (105), 2), (53, .if_icmp .ne (7), 3), (56, .iconst 5, 1), (57, .goto (15), 3), (60, .iload_n 0, 1), (61, .bipush (111), 2), (63, .if_icmp .ne (8), 3), (66, .bipush (6), 2), (68, .goto (4), 3), (71, .iconst (-1), 1), (72, .ireturn, 1)]
set_option maxRecDepth 200000 in
theorem mo_letterOf_code_ok : px_code prog_13_method_31_code mo_letterOf_code = true := by decide +kernel
noncomputable def mo_letterOf_orc : pC := px_orc []
theorem mo_letterOf_orc_ok {d : Nat} : px_Or (d + 0) (mo_letterOf_orc) := px_orc_ok (by
  exact px_o0)
set_option maxRecDepth 200000 in
theorem mo_letterOf_72_ok {d : Nat} : ∀ (s0 : Int32) (h : pH) (q : Int32 × pH), mo_letterOf_72 s0 h = some q → px_G (d + 0 + 1) (pX_RX11, prog_13_method_31_code, 1, (some .int)) 72 [none] [.inl s0] h q := by
  intro s0 h q e
  exact px_blk_ok (d := d + 0) (M := (pX_RX11, prog_13_method_31_code, 1, (some .int))) (C := mo_letterOf_orc) (code := mo_letterOf_code) (ld := []) (kl := []) (mo_letterOf_orc_ok) pX_ok_RX11 mo_letterOf_code_ok (px_k0) 42 72 _ _ h q e
set_option maxRecDepth 200000 in
theorem mo_letterOf_ok {d : Nat} {x0 : Int32} {h : pH} {q : Int32 × pH} (e : mo_letterOf x0 h = some q) : px_Con (d + 1) 203 [.inl x0] h q :=
  px_con (X := pX_RX11) (b := prog_13_method_31_code) (nL := 1) (rt := (some .int)) rfl rfl (Nat.le_of_ble_eq_true rfl) rfl (px_blk_ok (d := d + 0) (M := (pX_RX11, prog_13_method_31_code, 1, (some .int))) (C := mo_letterOf_orc) (code := mo_letterOf_code) (ld := [72]) (kl := [(72, fun ls st h => px_if (px_fit [0] ls && px_fits [1] st) (mo_letterOf_72 (px_si st 0) h))]) (mo_letterOf_orc_ok) pX_ok_RX11 mo_letterOf_code_ok (px_k1 (px_ko (ts := [0]) (ss := [1]) fun ls st h q e => mo_letterOf_72_ok _ _ _ e) px_k0) 42 0 _ _ _ q e)
noncomputable def mo_held_77 (rc : pC) (s0 : Int32) (h : pH) : pR :=
  some (s0, h)
noncomputable def mo_held_53 (rc : pC) (s0 : Int32) (h : pH) : pR :=
  some (s0, h)
noncomputable def mo_held_29 (rc : pC) (s0 : Int32) (h : pH) : pR :=
  some (s0, h)
noncomputable def mo_held (rc : pC) (x1 : Int32) (h : pH) : pR :=
  px_bind (rc 201 [.inr (.inl 51), .inl x1] h) fun z1 h2 =>
  px_bind (mo_passes (px_c 60) h2) fun z3 h4 =>
  if z3 = 0 then
    px_bind (mo_passes (px_c 62) h4) fun z5 h6 =>
    if z5 = 0 then
      px_bind (mo_passes (px_c 61) h6) fun z7 h8 =>
      if z7 = 0 then
        some (z1, h8)
      else
        px_bind (rc 201 [.inr (.inl 51), .inl x1] h8) fun z9 h10 =>
        if z1 = z9 then
          mo_held_77 rc (px_c 1) h10
        else
          mo_held_77 rc (px_c 0) h10
    else
      px_bind (rc 201 [.inr (.inl 51), .inl x1] h6) fun z11 h12 =>
      if z1 ≤ z11 then
        mo_held_53 rc (px_c 0) h12
      else
        mo_held_53 rc (px_c 1) h12
  else
    px_bind (rc 201 [.inr (.inl 51), .inl x1] h4) fun z13 h14 =>
    if z13 ≤ z1 then
      mo_held_29 rc (px_c 0) h14
    else
      mo_held_29 rc (px_c 1) h14
noncomputable def mo_sum_82 (rc : pC) (x2 : Int32) (h : pH) : pR :=
  some (x2, h)
noncomputable def mo_sum_78 (rc : pC) (r6 : Int32 → Int32 → pH → pR) (x1 : Int32) (s0 : Int32) (h : pH) : pR :=
  r6 x1 s0 h
noncomputable def mo_sum_45 (rc : pC) (r6 : Int32 → Int32 → pH → pR) (x1 : Int32) (x2 : Int32) (s0 : Int32) (h : pH) : pR :=
  let h1 := px_w h 51 18 ((h 51 18) + (px_c 1))
  px_bind (rc 202 [.inr (.inl 51), .inl x1] h1) fun z2 h3 =>
  if s0 = 0 then
    mo_sum_78 rc r6 x1 (x2 - z2) h3
  else
    mo_sum_78 rc r6 x1 (x2 + z2) h3
noncomputable def mo_sum_31 (rc : pC) (r6 : Int32 → Int32 → pH → pR) (x1 : Int32) (x2 : Int32) (h : pH) : pR :=
  px_bind (mo_here h) fun z1 h2 =>
  if z1 = (px_c 43) then
    mo_sum_45 rc r6 x1 x2 (px_c 1) h2
  else
    mo_sum_45 rc r6 x1 x2 (px_c 0) h2
noncomputable def mo_sum_6 (rc : pC) : Nat → Int32 → Int32 → pH → pR
  | 0, _, _, _ => none
  | n + 1, x1, x2, h =>
    px_bind (mo_fine h) fun z1 h2 =>
    if z1 = 0 then
      mo_sum_82 rc x2 h2
    else
      px_bind (mo_here h2) fun z3 h4 =>
      if z3 = (px_c 43) then
        mo_sum_31 rc (mo_sum_6 rc n) x1 x2 h4
      else
        px_bind (mo_here h4) fun z5 h6 =>
        if z5 = (px_c 45) then
          mo_sum_31 rc (mo_sum_6 rc n) x1 x2 h6
        else
          mo_sum_82 rc x2 h6
noncomputable def mo_sum (rc : pC) (x1 : Int32) (h : pH) : pR :=
  px_bind (rc 202 [.inr (.inl 51), .inl x1] h) fun z1 h2 =>
  mo_sum_6 rc px_F x1 z1 h2
noncomputable def mo_product_91 (rc : pC) (x2 : Int32) (h : pH) : pR :=
  some (x2, h)
noncomputable def mo_product_87 (rc : pC) (r6 : Int32 → Int32 → pH → pR) (x1 : Int32) (s0 : Int32) (h : pH) : pR :=
  r6 x1 s0 h
noncomputable def mo_product_45 (rc : pC) (r6 : Int32 → Int32 → pH → pR) (x1 : Int32) (x2 : Int32) (s0 : Int32) (h : pH) : pR :=
  let h1 := px_w h 51 18 ((h 51 18) + (px_c 1))
  px_bind (rc 204 [.inr (.inl 51), .inl x1] h1) fun z2 h3 =>
  if s0 = 0 then
    if z2 = 0 then
      mo_product_87 rc r6 x1 (px_c 0) h3
    else
      if z2 = 0 then none else
      mo_product_87 rc r6 x1 (x2 / z2) h3
  else
    mo_product_87 rc r6 x1 (x2 * z2) h3
noncomputable def mo_product_31 (rc : pC) (r6 : Int32 → Int32 → pH → pR) (x1 : Int32) (x2 : Int32) (h : pH) : pR :=
  px_bind (mo_here h) fun z1 h2 =>
  if z1 = (px_c 42) then
    mo_product_45 rc r6 x1 x2 (px_c 1) h2
  else
    mo_product_45 rc r6 x1 x2 (px_c 0) h2
noncomputable def mo_product_6 (rc : pC) : Nat → Int32 → Int32 → pH → pR
  | 0, _, _, _ => none
  | n + 1, x1, x2, h =>
    px_bind (mo_fine h) fun z1 h2 =>
    if z1 = 0 then
      mo_product_91 rc x2 h2
    else
      px_bind (mo_here h2) fun z3 h4 =>
      if z3 = (px_c 42) then
        mo_product_31 rc (mo_product_6 rc n) x1 x2 h4
      else
        px_bind (mo_here h4) fun z5 h6 =>
        if z5 = (px_c 47) then
          mo_product_31 rc (mo_product_6 rc n) x1 x2 h6
        else
          mo_product_91 rc x2 h6
noncomputable def mo_product (rc : pC) (x1 : Int32) (h : pH) : pR :=
  px_bind (rc 204 [.inr (.inl 51), .inl x1] h) fun z1 h2 =>
  mo_product_6 rc px_F x1 z1 h2
noncomputable def mo_factor_132 (rc : pC) (s0 : Int32) (h : pH) : pR :=
  some (s0, h)
noncomputable def mo_factor_67 (rc : pC) (x2 : Int32) (h : pH) : pR :=
  px_bind (mo_in x2 (px_c 48) (px_c 57) h) fun z1 h2 =>
  if z1 = 0 then
    px_bind (mo_letterOf x2 h2) fun z3 h4 =>
    if z3 = (px_c (-1)) then
      px_bind (mo_fault (h4 51 18) h4) fun _ h6 =>
      some (px_c 0, h6)
    else
      let h7 := px_w h4 51 18 ((h4 51 18) + (px_c 1))
      if (h7 51 27) = 0 then
        mo_factor_132 rc (px_c 0) h7
      else
        px_bind (mo_letterOf x2 h7) fun z8 h9 =>
        px_if (px_ok 0 64 z8) <|
        mo_factor_132 rc (h9 64 z8.toNatClampNeg) h9
  else
    px_bind (mo_number (px_c 3) h2) fun z10 h11 =>
    some (z10, h11)
noncomputable def mo_factor (rc : pC) (x1 : Int32) (h : pH) : pR :=
  px_bind (mo_passes (px_c 45) h) fun z1 h2 =>
  if z1 = 0 then
    px_bind (mo_fine h2) fun z3 h4 =>
    if z3 = 0 then
      some (px_c 0, h4)
    else
      px_bind (mo_here h4) fun z5 h6 =>
      if z5 = (px_c 40) then
        if (px_c 4) ≤ x1 then
          mo_factor_67 rc z5 h6
        else
          let h7 := px_w h6 51 18 ((h6 51 18) + (px_c 1))
          px_bind (rc 200 [.inr (.inl 51), .inl (x1 + (px_c 1))] h7) fun z8 h9 =>
          px_bind (mo_need (px_c 41) h9) fun _ h11 =>
          some (z8, h11)
      else
        mo_factor_67 rc z5 h6
  else
    px_bind (rc 204 [.inr (.inl 51), .inl x1] h2) fun z12 h13 =>
    some (-z12, h13)
def mo_held_code : pCode := [(0, .aload_n 0, 1), (1, .iload_n 1, 1), (2, .invokevirtual 200, 3), (5, .istore_n 2, 1), (6, .aload_n 0, 1), (7, .bipush (60), 2), (9, .invokevirtual 155, 3), (12, .ifCond .eq (18), 3), (15, .iload_n 2, 1), (16, .aload_n 0, 1), (17, .iload_n 1, 1), (18, .invokevirtual 200, 3), (21, .if_icmp .ge (7), 3), (24, .iconst 1, 1), (25, .goto (4), 3), (28, .iconst 0, 1), (29, .ireturn, 1), (30, .aload_n 0, 1), (31, .bipush (62), 2), (33, .invokevirtual 155, 3), (36, .ifCond .eq (18), 3), (39, .iload_n 2, 1), (40, .aload_n 0, 1), (41, .iload_n 1, 1), (42, .invokevirtual 200, 3), (45, .if_icmp .le (7), 3), (48, .iconst 1, 1), (49, .goto (4), 3), (52, .iconst 0, 1), (53, .ireturn, 1), (54, .aload_n 0, 1), (55, .bipush (61), 2), (57, .invokevirtual 155, 3), (60, .ifCond .eq (18), 3), (63, .iload_n 2, 1), (64, .aload_n 0, 1), (65, .iload_n 1, 1), (66, .invokevirtual 200, 3), (69, .if_icmp .ne (7), 3), (72, .iconst 1, 1), (73, .goto (4), 3), (76, .iconst 0, 1), (77, .ireturn, 1), (78, .iload_n 2, 1), (79, .ireturn, 1)]
set_option maxRecDepth 200000 in
theorem mo_held_code_ok : px_code prog_13_method_28_code mo_held_code = true := by decide +kernel
noncomputable def mo_held_orc (rc : pC) : pC := fun id a h => if id ∈ ([200, 201, 202, 204] : List Nat) then rc id a h else px_orc [(191, fun a h => match a with
    | [.inr (.inl 51), .inl v1] => mo_passes v1 h
    | _ => none)] id a h
theorem mo_held_orc_ok {d : Nat} {rc : pC} (hrc : px_Or (d + 4) rc) : px_Or (d + 4) (mo_held_orc rc) := by
  intro id a h q e
  unfold mo_held_orc at e
  split at e
  · exact hrc id a h q e
  · revert e
    revert q
    revert h
    revert a
    revert id
    show ∀ id, ¬ _ → ∀ a h q, _ → _
    intro id _
    revert id
    exact px_orc_ok (by
      refine px_o1 (fun a h q e => by
        dsimp only at e
        split at e
        · exact mo_passes_ok (d := d + 2) e
        · cases e) ?_
      exact px_o0)
set_option maxRecDepth 200000 in
theorem mo_held_77_ok {d : Nat} {rc : pC} (hrc : px_Or (d + 4) rc) : ∀ (s0 : Int32) (h : pH) (q : Int32 × pH), mo_held_77 rc s0 h = some q → px_G (d + 4 + 1) (pX_RX11, prog_13_method_28_code, 3, (some .int)) 77 [none, none, none] [.inl s0] h q := by
  intro s0 h q e
  exact px_blk_ok (d := d + 4) (M := (pX_RX11, prog_13_method_28_code, 3, (some .int))) (C := mo_held_orc rc) (code := mo_held_code) (ld := []) (kl := []) (mo_held_orc_ok hrc) pX_ok_RX11 mo_held_code_ok (px_k0) 50 77 _ _ h q e
set_option maxRecDepth 200000 in
theorem mo_held_53_ok {d : Nat} {rc : pC} (hrc : px_Or (d + 4) rc) : ∀ (s0 : Int32) (h : pH) (q : Int32 × pH), mo_held_53 rc s0 h = some q → px_G (d + 4 + 1) (pX_RX11, prog_13_method_28_code, 3, (some .int)) 53 [none, none, none] [.inl s0] h q := by
  intro s0 h q e
  exact px_blk_ok (d := d + 4) (M := (pX_RX11, prog_13_method_28_code, 3, (some .int))) (C := mo_held_orc rc) (code := mo_held_code) (ld := []) (kl := []) (mo_held_orc_ok hrc) pX_ok_RX11 mo_held_code_ok (px_k0) 50 53 _ _ h q e
set_option maxRecDepth 200000 in
theorem mo_held_29_ok {d : Nat} {rc : pC} (hrc : px_Or (d + 4) rc) : ∀ (s0 : Int32) (h : pH) (q : Int32 × pH), mo_held_29 rc s0 h = some q → px_G (d + 4 + 1) (pX_RX11, prog_13_method_28_code, 3, (some .int)) 29 [none, none, none] [.inl s0] h q := by
  intro s0 h q e
  exact px_blk_ok (d := d + 4) (M := (pX_RX11, prog_13_method_28_code, 3, (some .int))) (C := mo_held_orc rc) (code := mo_held_code) (ld := []) (kl := []) (mo_held_orc_ok hrc) pX_ok_RX11 mo_held_code_ok (px_k0) 50 29 _ _ h q e
set_option maxRecDepth 200000 in
theorem mo_held_ok {d : Nat} {rc : pC} (hrc : px_Or (d + 4) rc) {x1 : Int32} {h : pH} {q : Int32 × pH} (e : mo_held rc x1 h = some q) : px_Con (d + 5) 200 [.inr (.inl 51), .inl x1] h q :=
  px_con (X := pX_RX11) (b := prog_13_method_28_code) (nL := 3) (rt := (some .int)) rfl rfl (Nat.le_of_ble_eq_true rfl) rfl (px_blk_ok (d := d + 4) (M := (pX_RX11, prog_13_method_28_code, 3, (some .int))) (C := mo_held_orc rc) (code := mo_held_code) (ld := [29, 53, 77]) (kl := [(29, fun ls st h => px_if (px_fit [0, 0, 0] ls && px_fits [1] st) (mo_held_29 rc (px_si st 0) h)), (53, fun ls st h => px_if (px_fit [0, 0, 0] ls && px_fits [1] st) (mo_held_53 rc (px_si st 0) h)), (77, fun ls st h => px_if (px_fit [0, 0, 0] ls && px_fits [1] st) (mo_held_77 rc (px_si st 0) h))]) (mo_held_orc_ok hrc) pX_ok_RX11 mo_held_code_ok (px_k1 (px_ko (ts := [0, 0, 0]) (ss := [1]) fun ls st h q e => mo_held_29_ok hrc _ _ _ e) (px_k1 (px_ko (ts := [0, 0, 0]) (ss := [1]) fun ls st h q e => mo_held_53_ok hrc _ _ _ e) (px_k1 (px_ko (ts := [0, 0, 0]) (ss := [1]) fun ls st h q e => mo_held_77_ok hrc _ _ _ e) px_k0))) 50 0 _ _ _ q e)
def mo_sum_code : pCode := [(0, .aload_n 0, 1), (1, .iload_n 1, 1), (2, .invokevirtual 203, 3), (5, .istore_n 2, 1), (6, .aload_n 0, 1), (7, .invokevirtual 147, 3), (10, .ifCond .eq (72), 3), (13, .aload_n 0, 1), (14, .invokevirtual 151, 3), (17, .bipush (43), 2), (19, .if_icmp .eq (12), 3), (22, .aload_n 0, 1), (23, .invokevirtual 151, 3), (26, .bipush (45), 2), (28, .if_icmp .ne (54), 3), (31, .aload_n 0, 1), (32, .invokevirtual 151, 3), (35, .bipush (43), 2), (37, .if_icmp .ne (7), 3), (40, .iconst 1, 1), (41, .goto (4), 3), (44, .iconst 0, 1), (45, .istore_n 3, 1), (46, .aload_n 0, 1), (47, .dup, 1), (48, .getfield 141, 3), (51, .iconst 1, 1), (52, .iadd, 1), (53, .putfield 141, 3), (56, .aload_n 0, 1), (57, .iload_n 1, 1), (58, .invokevirtual 203, 3), (61, .istore 4, 2), (63, .iload_n 3, 1), (64, .ifCond .eq (10), 3), (67, .iload_n 2, 1), (68, .iload 4, 2), (70, .iadd, 1), (71, .goto (7), 3), (74, .iload_n 2, 1), (75, .iload 4, 2), (77, .isub, 1), (78, .istore_n 2, 1), (79, .goto (-73), 3), (82, .iload_n 2, 1), (83, .ireturn, 1)]
set_option maxRecDepth 200000 in
theorem mo_sum_code_ok : px_code prog_13_method_29_code mo_sum_code = true := by decide +kernel
noncomputable def mo_sum_orc (rc : pC) : pC := fun id a h => if id ∈ ([200, 201, 202, 204] : List Nat) then rc id a h else px_orc [(188, fun a h => match a with
    | [.inr (.inl 51)] => mo_here h
    | _ => none), (189, fun a h => match a with
    | [.inr (.inl 51)] => mo_fine h
    | _ => none)] id a h
theorem mo_sum_orc_ok {d : Nat} {rc : pC} (hrc : px_Or (d + 4) rc) : px_Or (d + 4) (mo_sum_orc rc) := by
  intro id a h q e
  unfold mo_sum_orc at e
  split at e
  · exact hrc id a h q e
  · revert e
    revert q
    revert h
    revert a
    revert id
    show ∀ id, ¬ _ → ∀ a h q, _ → _
    intro id _
    revert id
    exact px_orc_ok (by
      refine px_o1 (fun a h q e => by
        dsimp only at e
        split at e
        · exact mo_here_ok (d := d + 3) e
        · cases e) ?_
      refine px_o1 (fun a h q e => by
        dsimp only at e
        split at e
        · exact mo_fine_ok (d := d + 3) e
        · cases e) ?_
      exact px_o0)
set_option maxRecDepth 200000 in
theorem mo_sum_82_ok {d : Nat} {rc : pC} (hrc : px_Or (d + 4) rc) : ∀ (x2 : Int32) (h : pH) (q : Int32 × pH), mo_sum_82 rc x2 h = some q → px_G (d + 4 + 1) (pX_RX11, prog_13_method_29_code, 5, (some .int)) 82 [none, none, some (.inl x2), none, none] [] h q := by
  intro x2 h q e
  exact px_blk_ok (d := d + 4) (M := (pX_RX11, prog_13_method_29_code, 5, (some .int))) (C := mo_sum_orc rc) (code := mo_sum_code) (ld := []) (kl := []) (mo_sum_orc_ok hrc) pX_ok_RX11 mo_sum_code_ok (px_k0) 51 82 _ _ h q e
set_option maxRecDepth 200000 in
theorem mo_sum_78_ok {d : Nat} {rc : pC} (hrc : px_Or (d + 4) rc) {r6 : Int32 → Int32 → pH → pR} (hr6 : ∀ (x1 : Int32) (x2 : Int32) (h : pH) (q : Int32 × pH), r6 x1 x2 h = some q → px_G (d + 4 + 1) (pX_RX11, prog_13_method_29_code, 5, (some .int)) 6 [some (.inr (.inl 51)), some (.inl x1), some (.inl x2), none, none] [] h q) : ∀ (x1 : Int32) (s0 : Int32) (h : pH) (q : Int32 × pH), mo_sum_78 rc r6 x1 s0 h = some q → px_G (d + 4 + 1) (pX_RX11, prog_13_method_29_code, 5, (some .int)) 78 [some (.inr (.inl 51)), some (.inl x1), none, none, none] [.inl s0] h q := by
  intro x1 s0 h q e
  exact px_blk_ok (d := d + 4) (M := (pX_RX11, prog_13_method_29_code, 5, (some .int))) (C := mo_sum_orc rc) (code := mo_sum_code) (ld := [6]) (kl := [(6, fun ls st h => px_if (px_fit [61, 1, 1, 0, 0] ls && px_fits [] st) (r6 (px_gi ls 1) (px_gi ls 2) h))]) (mo_sum_orc_ok hrc) pX_ok_RX11 mo_sum_code_ok (px_k1 (px_ko (ts := [61, 1, 1, 0, 0]) (ss := []) fun ls st h q e => hr6 _ _ _ _ e) px_k0) 51 78 _ _ h q e
set_option maxRecDepth 200000 in
theorem mo_sum_45_ok {d : Nat} {rc : pC} (hrc : px_Or (d + 4) rc) {r6 : Int32 → Int32 → pH → pR} (hr6 : ∀ (x1 : Int32) (x2 : Int32) (h : pH) (q : Int32 × pH), r6 x1 x2 h = some q → px_G (d + 4 + 1) (pX_RX11, prog_13_method_29_code, 5, (some .int)) 6 [some (.inr (.inl 51)), some (.inl x1), some (.inl x2), none, none] [] h q) : ∀ (x1 : Int32) (x2 : Int32) (s0 : Int32) (h : pH) (q : Int32 × pH), mo_sum_45 rc r6 x1 x2 s0 h = some q → px_G (d + 4 + 1) (pX_RX11, prog_13_method_29_code, 5, (some .int)) 45 [some (.inr (.inl 51)), some (.inl x1), some (.inl x2), none, none] [.inl s0] h q := by
  intro x1 x2 s0 h q e
  exact px_blk_ok (d := d + 4) (M := (pX_RX11, prog_13_method_29_code, 5, (some .int))) (C := mo_sum_orc rc) (code := mo_sum_code) (ld := [78]) (kl := [(78, fun ls st h => px_if (px_fit [61, 1, 0, 0, 0] ls && px_fits [1] st) (mo_sum_78 rc r6 (px_gi ls 1) (px_si st 0) h))]) (mo_sum_orc_ok hrc) pX_ok_RX11 mo_sum_code_ok (px_k1 (px_ko (ts := [61, 1, 0, 0, 0]) (ss := [1]) fun ls st h q e => mo_sum_78_ok hrc hr6 _ _ _ _ e) px_k0) 51 45 _ _ h q e
set_option maxRecDepth 200000 in
theorem mo_sum_31_ok {d : Nat} {rc : pC} (hrc : px_Or (d + 4) rc) {r6 : Int32 → Int32 → pH → pR} (hr6 : ∀ (x1 : Int32) (x2 : Int32) (h : pH) (q : Int32 × pH), r6 x1 x2 h = some q → px_G (d + 4 + 1) (pX_RX11, prog_13_method_29_code, 5, (some .int)) 6 [some (.inr (.inl 51)), some (.inl x1), some (.inl x2), none, none] [] h q) : ∀ (x1 : Int32) (x2 : Int32) (h : pH) (q : Int32 × pH), mo_sum_31 rc r6 x1 x2 h = some q → px_G (d + 4 + 1) (pX_RX11, prog_13_method_29_code, 5, (some .int)) 31 [some (.inr (.inl 51)), some (.inl x1), some (.inl x2), none, none] [] h q := by
  intro x1 x2 h q e
  exact px_blk_ok (d := d + 4) (M := (pX_RX11, prog_13_method_29_code, 5, (some .int))) (C := mo_sum_orc rc) (code := mo_sum_code) (ld := [45]) (kl := [(45, fun ls st h => px_if (px_fit [61, 1, 1, 0, 0] ls && px_fits [1] st) (mo_sum_45 rc r6 (px_gi ls 1) (px_gi ls 2) (px_si st 0) h))]) (mo_sum_orc_ok hrc) pX_ok_RX11 mo_sum_code_ok (px_k1 (px_ko (ts := [61, 1, 1, 0, 0]) (ss := [1]) fun ls st h q e => mo_sum_45_ok hrc hr6 _ _ _ _ _ e) px_k0) 51 31 _ _ h q e
set_option maxRecDepth 200000 in
theorem mo_sum_6_ok {d : Nat} {rc : pC} (hrc : px_Or (d + 4) rc) : ∀ (n : Nat) (x1 : Int32) (x2 : Int32) (h : pH) (q : Int32 × pH), mo_sum_6 rc n x1 x2 h = some q → px_G (d + 4 + 1) (pX_RX11, prog_13_method_29_code, 5, (some .int)) 6 [some (.inr (.inl 51)), some (.inl x1), some (.inl x2), none, none] [] h q := by
  intro n
  induction n with
  | zero =>
    intro x1 x2 h q e
    cases e
  | succ n ih =>
    intro x1 x2 h q e
    exact px_blk_ok (d := d + 4) (M := (pX_RX11, prog_13_method_29_code, 5, (some .int))) (C := mo_sum_orc rc) (code := mo_sum_code) (ld := [31, 82]) (kl := [(31, fun ls st h => px_if (px_fit [61, 1, 1, 0, 0] ls && px_fits [] st) (mo_sum_31 rc (mo_sum_6 rc n) (px_gi ls 1) (px_gi ls 2) h)), (82, fun ls st h => px_if (px_fit [0, 0, 1, 0, 0] ls && px_fits [] st) (mo_sum_82 rc (px_gi ls 2) h))]) (mo_sum_orc_ok hrc) pX_ok_RX11 mo_sum_code_ok (px_k1 (px_ko (ts := [61, 1, 1, 0, 0]) (ss := []) fun ls st h q e => mo_sum_31_ok hrc ih _ _ _ _ e) (px_k1 (px_ko (ts := [0, 0, 1, 0, 0]) (ss := []) fun ls st h q e => mo_sum_82_ok hrc _ _ _ e) px_k0)) 51 6 _ _ h q e
set_option maxRecDepth 200000 in
theorem mo_sum_ok {d : Nat} {rc : pC} (hrc : px_Or (d + 4) rc) {x1 : Int32} {h : pH} {q : Int32 × pH} (e : mo_sum rc x1 h = some q) : px_Con (d + 5) 201 [.inr (.inl 51), .inl x1] h q :=
  px_con (X := pX_RX11) (b := prog_13_method_29_code) (nL := 5) (rt := (some .int)) rfl rfl (Nat.le_of_ble_eq_true rfl) rfl (px_blk_ok (d := d + 4) (M := (pX_RX11, prog_13_method_29_code, 5, (some .int))) (C := mo_sum_orc rc) (code := mo_sum_code) (ld := [6]) (kl := [(6, fun ls st h => px_if (px_fit [61, 1, 1, 0, 0] ls && px_fits [] st) (mo_sum_6 rc px_F (px_gi ls 1) (px_gi ls 2) h))]) (mo_sum_orc_ok hrc) pX_ok_RX11 mo_sum_code_ok (px_k1 (px_ko (ts := [61, 1, 1, 0, 0]) (ss := []) fun ls st h q e => mo_sum_6_ok hrc _ _ _ _ _ e) px_k0) 51 0 _ _ _ q e)
def mo_product_code : pCode := [(0, .aload_n 0, 1), (1, .iload_n 1, 1), (2, .invokevirtual 206, 3), (5, .istore_n 2, 1), (6, .aload_n 0, 1), (7, .invokevirtual 147, 3), (10, .ifCond .eq (81), 3), (13, .aload_n 0, 1), (14, .invokevirtual 151, 3), (17, .bipush (42), 2), (19, .if_icmp .eq (12), 3), (22, .aload_n 0, 1), (23, .invokevirtual 151, 3), (26, .bipush (47), 2), (28, .if_icmp .ne (63), 3), (31, .aload_n 0, 1), (32, .invokevirtual 151, 3), (35, .bipush (42), 2), (37, .if_icmp .ne (7), 3), (40, .iconst 1, 1), (41, .goto (4), 3), (44, .iconst 0, 1), (45, .istore_n 3, 1), (46, .aload_n 0, 1), (47, .dup, 1), (48, .getfield 141, 3), (51, .iconst 1, 1), (52, .iadd, 1), (53, .putfield 141, 3), (56, .aload_n 0, 1), (57, .iload_n 1, 1), (58, .invokevirtual 206, 3), (61, .istore 4, 2), (63, .iload_n 3, 1), (64, .ifCond .eq (10), 3), (67, .iload_n 2, 1), (68, .iload 4, 2), (70, .imul, 1), (71, .goto (16), 3), (74, .iload 4, 2), (76, .ifCond .ne (7), 3), (79, .iconst 0, 1), (80, .goto (7), 3), (83, .iload_n 2, 1), (84, .iload 4, 2), (86, .idiv, 1), (87, .istore_n 2, 1), (88, .goto (-82), 3), (91, .iload_n 2, 1), (92, .ireturn, 1)]
set_option maxRecDepth 200000 in
theorem mo_product_code_ok : px_code prog_13_method_30_code mo_product_code = true := by decide +kernel
noncomputable def mo_product_orc (rc : pC) : pC := fun id a h => if id ∈ ([200, 201, 202, 204] : List Nat) then rc id a h else px_orc [(188, fun a h => match a with
    | [.inr (.inl 51)] => mo_here h
    | _ => none), (189, fun a h => match a with
    | [.inr (.inl 51)] => mo_fine h
    | _ => none)] id a h
theorem mo_product_orc_ok {d : Nat} {rc : pC} (hrc : px_Or (d + 4) rc) : px_Or (d + 4) (mo_product_orc rc) := by
  intro id a h q e
  unfold mo_product_orc at e
  split at e
  · exact hrc id a h q e
  · revert e
    revert q
    revert h
    revert a
    revert id
    show ∀ id, ¬ _ → ∀ a h q, _ → _
    intro id _
    revert id
    exact px_orc_ok (by
      refine px_o1 (fun a h q e => by
        dsimp only at e
        split at e
        · exact mo_here_ok (d := d + 3) e
        · cases e) ?_
      refine px_o1 (fun a h q e => by
        dsimp only at e
        split at e
        · exact mo_fine_ok (d := d + 3) e
        · cases e) ?_
      exact px_o0)
set_option maxRecDepth 200000 in
theorem mo_product_91_ok {d : Nat} {rc : pC} (hrc : px_Or (d + 4) rc) : ∀ (x2 : Int32) (h : pH) (q : Int32 × pH), mo_product_91 rc x2 h = some q → px_G (d + 4 + 1) (pX_RX11, prog_13_method_30_code, 5, (some .int)) 91 [none, none, some (.inl x2), none, none] [] h q := by
  intro x2 h q e
  exact px_blk_ok (d := d + 4) (M := (pX_RX11, prog_13_method_30_code, 5, (some .int))) (C := mo_product_orc rc) (code := mo_product_code) (ld := []) (kl := []) (mo_product_orc_ok hrc) pX_ok_RX11 mo_product_code_ok (px_k0) 55 91 _ _ h q e
set_option maxRecDepth 200000 in
theorem mo_product_87_ok {d : Nat} {rc : pC} (hrc : px_Or (d + 4) rc) {r6 : Int32 → Int32 → pH → pR} (hr6 : ∀ (x1 : Int32) (x2 : Int32) (h : pH) (q : Int32 × pH), r6 x1 x2 h = some q → px_G (d + 4 + 1) (pX_RX11, prog_13_method_30_code, 5, (some .int)) 6 [some (.inr (.inl 51)), some (.inl x1), some (.inl x2), none, none] [] h q) : ∀ (x1 : Int32) (s0 : Int32) (h : pH) (q : Int32 × pH), mo_product_87 rc r6 x1 s0 h = some q → px_G (d + 4 + 1) (pX_RX11, prog_13_method_30_code, 5, (some .int)) 87 [some (.inr (.inl 51)), some (.inl x1), none, none, none] [.inl s0] h q := by
  intro x1 s0 h q e
  exact px_blk_ok (d := d + 4) (M := (pX_RX11, prog_13_method_30_code, 5, (some .int))) (C := mo_product_orc rc) (code := mo_product_code) (ld := [6]) (kl := [(6, fun ls st h => px_if (px_fit [61, 1, 1, 0, 0] ls && px_fits [] st) (r6 (px_gi ls 1) (px_gi ls 2) h))]) (mo_product_orc_ok hrc) pX_ok_RX11 mo_product_code_ok (px_k1 (px_ko (ts := [61, 1, 1, 0, 0]) (ss := []) fun ls st h q e => hr6 _ _ _ _ e) px_k0) 55 87 _ _ h q e
set_option maxRecDepth 200000 in
theorem mo_product_45_ok {d : Nat} {rc : pC} (hrc : px_Or (d + 4) rc) {r6 : Int32 → Int32 → pH → pR} (hr6 : ∀ (x1 : Int32) (x2 : Int32) (h : pH) (q : Int32 × pH), r6 x1 x2 h = some q → px_G (d + 4 + 1) (pX_RX11, prog_13_method_30_code, 5, (some .int)) 6 [some (.inr (.inl 51)), some (.inl x1), some (.inl x2), none, none] [] h q) : ∀ (x1 : Int32) (x2 : Int32) (s0 : Int32) (h : pH) (q : Int32 × pH), mo_product_45 rc r6 x1 x2 s0 h = some q → px_G (d + 4 + 1) (pX_RX11, prog_13_method_30_code, 5, (some .int)) 45 [some (.inr (.inl 51)), some (.inl x1), some (.inl x2), none, none] [.inl s0] h q := by
  intro x1 x2 s0 h q e
  exact px_blk_ok (d := d + 4) (M := (pX_RX11, prog_13_method_30_code, 5, (some .int))) (C := mo_product_orc rc) (code := mo_product_code) (ld := [87]) (kl := [(87, fun ls st h => px_if (px_fit [61, 1, 0, 0, 0] ls && px_fits [1] st) (mo_product_87 rc r6 (px_gi ls 1) (px_si st 0) h))]) (mo_product_orc_ok hrc) pX_ok_RX11 mo_product_code_ok (px_k1 (px_ko (ts := [61, 1, 0, 0, 0]) (ss := [1]) fun ls st h q e => mo_product_87_ok hrc hr6 _ _ _ _ e) px_k0) 55 45 _ _ h q e
set_option maxRecDepth 200000 in
theorem mo_product_31_ok {d : Nat} {rc : pC} (hrc : px_Or (d + 4) rc) {r6 : Int32 → Int32 → pH → pR} (hr6 : ∀ (x1 : Int32) (x2 : Int32) (h : pH) (q : Int32 × pH), r6 x1 x2 h = some q → px_G (d + 4 + 1) (pX_RX11, prog_13_method_30_code, 5, (some .int)) 6 [some (.inr (.inl 51)), some (.inl x1), some (.inl x2), none, none] [] h q) : ∀ (x1 : Int32) (x2 : Int32) (h : pH) (q : Int32 × pH), mo_product_31 rc r6 x1 x2 h = some q → px_G (d + 4 + 1) (pX_RX11, prog_13_method_30_code, 5, (some .int)) 31 [some (.inr (.inl 51)), some (.inl x1), some (.inl x2), none, none] [] h q := by
  intro x1 x2 h q e
  exact px_blk_ok (d := d + 4) (M := (pX_RX11, prog_13_method_30_code, 5, (some .int))) (C := mo_product_orc rc) (code := mo_product_code) (ld := [45]) (kl := [(45, fun ls st h => px_if (px_fit [61, 1, 1, 0, 0] ls && px_fits [1] st) (mo_product_45 rc r6 (px_gi ls 1) (px_gi ls 2) (px_si st 0) h))]) (mo_product_orc_ok hrc) pX_ok_RX11 mo_product_code_ok (px_k1 (px_ko (ts := [61, 1, 1, 0, 0]) (ss := [1]) fun ls st h q e => mo_product_45_ok hrc hr6 _ _ _ _ _ e) px_k0) 55 31 _ _ h q e
set_option maxRecDepth 200000 in
theorem mo_product_6_ok {d : Nat} {rc : pC} (hrc : px_Or (d + 4) rc) : ∀ (n : Nat) (x1 : Int32) (x2 : Int32) (h : pH) (q : Int32 × pH), mo_product_6 rc n x1 x2 h = some q → px_G (d + 4 + 1) (pX_RX11, prog_13_method_30_code, 5, (some .int)) 6 [some (.inr (.inl 51)), some (.inl x1), some (.inl x2), none, none] [] h q := by
  intro n
  induction n with
  | zero =>
    intro x1 x2 h q e
    cases e
  | succ n ih =>
    intro x1 x2 h q e
    exact px_blk_ok (d := d + 4) (M := (pX_RX11, prog_13_method_30_code, 5, (some .int))) (C := mo_product_orc rc) (code := mo_product_code) (ld := [31, 91]) (kl := [(31, fun ls st h => px_if (px_fit [61, 1, 1, 0, 0] ls && px_fits [] st) (mo_product_31 rc (mo_product_6 rc n) (px_gi ls 1) (px_gi ls 2) h)), (91, fun ls st h => px_if (px_fit [0, 0, 1, 0, 0] ls && px_fits [] st) (mo_product_91 rc (px_gi ls 2) h))]) (mo_product_orc_ok hrc) pX_ok_RX11 mo_product_code_ok (px_k1 (px_ko (ts := [61, 1, 1, 0, 0]) (ss := []) fun ls st h q e => mo_product_31_ok hrc ih _ _ _ _ e) (px_k1 (px_ko (ts := [0, 0, 1, 0, 0]) (ss := []) fun ls st h q e => mo_product_91_ok hrc _ _ _ e) px_k0)) 55 6 _ _ h q e
set_option maxRecDepth 200000 in
theorem mo_product_ok {d : Nat} {rc : pC} (hrc : px_Or (d + 4) rc) {x1 : Int32} {h : pH} {q : Int32 × pH} (e : mo_product rc x1 h = some q) : px_Con (d + 5) 202 [.inr (.inl 51), .inl x1] h q :=
  px_con (X := pX_RX11) (b := prog_13_method_30_code) (nL := 5) (rt := (some .int)) rfl rfl (Nat.le_of_ble_eq_true rfl) rfl (px_blk_ok (d := d + 4) (M := (pX_RX11, prog_13_method_30_code, 5, (some .int))) (C := mo_product_orc rc) (code := mo_product_code) (ld := [6]) (kl := [(6, fun ls st h => px_if (px_fit [61, 1, 1, 0, 0] ls && px_fits [] st) (mo_product_6 rc px_F (px_gi ls 1) (px_gi ls 2) h))]) (mo_product_orc_ok hrc) pX_ok_RX11 mo_product_code_ok (px_k1 (px_ko (ts := [61, 1, 1, 0, 0]) (ss := []) fun ls st h q e => mo_product_6_ok hrc _ _ _ _ _ e) px_k0) 55 0 _ _ _ q e)
def mo_factor_code : pCode := [(0, .aload_n 0, 1), (1, .bipush (45), 2), (3, .invokevirtual 155, 3), (6, .ifCond .eq (10), 3), (9, .aload_n 0, 1), (10, .iload_n 1, 1), (11, .invokevirtual 206, 3), (14, .ineg, 1), (15, .ireturn, 1), (16, .aload_n 0, 1), (17, .invokevirtual 147, 3), (20, .ifCond .ne (5), 3), (23, .iconst 0, 1), (24, .ireturn, 1), (25, .aload_n 0, 1), (26, .invokevirtual 151, 3), (29, .istore_n 2, 1), (30, .iload_n 2, 1), (31, .bipush (40), 2), (33, .if_icmp .ne (34), 3), (36, .iload_n 1, 1), (37, .iconst 4, 1), (38, .if_icmp .ge (29), 3), (41, .aload_n 0, 1), (42, .dup, 1), (43, .getfield 141, 3), (46, .iconst 1, 1), (47, .iadd, 1), (48, .putfield 141, 3), (51, .aload_n 0, 1), (52, .iload_n 1, 1), (53, .iconst 1, 1), (54, .iadd, 1), (55, .invokevirtual 209, 3), (58, .istore_n 3, 1), (59, .aload_n 0, 1), (60, .bipush (41), 2), (62, .invokevirtual 193, 3), (65, .iload_n 3, 1), (66, .ireturn, 1), (67, .iload_n 2, 1), (68, .bipush (48), 2), (70, .bipush (57), 2), (72, .invokestatic 115, 3), (75, .ifCond .eq (9), 3), (78, .aload_n 0, 1), (79, .iconst 3, 1), (80, .invokevirtual 167, 3), (83, .ireturn, 1), (84, .iload_n 2, 1), (85, .invokestatic 212, 3), (88, .iconst (-1), 1), (89, .if_icmp .ne (13), 3), (92, .aload_n 0, 1), (93, .aload_n 0, 1), (94, .getfield 141, 3), (97, .invokevirtual 159, 3), (100, .iconst 0, 1), (101, .ireturn, 1), (102, .aload_n 0, 1), (103, .dup, 1), (104, .getfield 141, 3), (107, .iconst 1, 1), (108, .iadd, 1), (109, .putfield 141, 3), (112, .aload_n 0, 1), (113, .getfield 215, 3), (116, .ifCond .eq (15), 3), (119, .aload_n 0, 1), (120, .getfield 51, 3), (123, .iload_n 2, 1), (124, .invokestatic 212, 3), (127, .iaload, 1), (128, .goto (4), 3), (131, .iconst 0, 1), (132, .ireturn, 1)]
set_option maxRecDepth 200000 in
theorem mo_factor_code_ok : px_code prog_13_method_32_code mo_factor_code = true := by decide +kernel
noncomputable def mo_factor_orc (rc : pC) : pC := fun id a h => if id ∈ ([200, 201, 202, 204] : List Nat) then rc id a h else px_orc [(175, fun a h => match a with
    | [.inl v0, .inl v1, .inl v2] => mo_in v0 v1 v2 h
    | _ => none), (203, fun a h => match a with
    | [.inl v0] => mo_letterOf v0 h
    | _ => none), (190, fun a h => match a with
    | [.inr (.inl 51), .inl v1] => mo_fault v1 h
    | _ => none), (194, fun a h => match a with
    | [.inr (.inl 51), .inl v1] => mo_number v1 h
    | _ => none), (191, fun a h => match a with
    | [.inr (.inl 51), .inl v1] => mo_passes v1 h
    | _ => none), (189, fun a h => match a with
    | [.inr (.inl 51)] => mo_fine h
    | _ => none), (188, fun a h => match a with
    | [.inr (.inl 51)] => mo_here h
    | _ => none), (192, fun a h => match a with
    | [.inr (.inl 51), .inl v1] => mo_need v1 h
    | _ => none)] id a h
theorem mo_factor_orc_ok {d : Nat} {rc : pC} (hrc : px_Or (d + 4) rc) : px_Or (d + 4) (mo_factor_orc rc) := by
  intro id a h q e
  unfold mo_factor_orc at e
  split at e
  · exact hrc id a h q e
  · revert e
    revert q
    revert h
    revert a
    revert id
    show ∀ id, ¬ _ → ∀ a h q, _ → _
    intro id _
    revert id
    exact px_orc_ok (by
      refine px_o1 (fun a h q e => by
        dsimp only at e
        split at e
        · exact mo_in_ok (d := d + 3) e
        · cases e) ?_
      refine px_o1 (fun a h q e => by
        dsimp only at e
        split at e
        · exact mo_letterOf_ok (d := d + 3) e
        · cases e) ?_
      refine px_o1 (fun a h q e => by
        dsimp only at e
        split at e
        · exact mo_fault_ok (d := d + 2) e
        · cases e) ?_
      refine px_o1 (fun a h q e => by
        dsimp only at e
        split at e
        · exact mo_number_ok (d := d + 0) e
        · cases e) ?_
      refine px_o1 (fun a h q e => by
        dsimp only at e
        split at e
        · exact mo_passes_ok (d := d + 2) e
        · cases e) ?_
      refine px_o1 (fun a h q e => by
        dsimp only at e
        split at e
        · exact mo_fine_ok (d := d + 3) e
        · cases e) ?_
      refine px_o1 (fun a h q e => by
        dsimp only at e
        split at e
        · exact mo_here_ok (d := d + 3) e
        · cases e) ?_
      refine px_o1 (fun a h q e => by
        dsimp only at e
        split at e
        · exact mo_need_ok (d := d + 1) e
        · cases e) ?_
      exact px_o0)
set_option maxRecDepth 200000 in
theorem mo_factor_132_ok {d : Nat} {rc : pC} (hrc : px_Or (d + 4) rc) : ∀ (s0 : Int32) (h : pH) (q : Int32 × pH), mo_factor_132 rc s0 h = some q → px_G (d + 4 + 1) (pX_RX11, prog_13_method_32_code, 4, (some .int)) 132 [none, none, none, none] [.inl s0] h q := by
  intro s0 h q e
  exact px_blk_ok (d := d + 4) (M := (pX_RX11, prog_13_method_32_code, 4, (some .int))) (C := mo_factor_orc rc) (code := mo_factor_code) (ld := []) (kl := []) (mo_factor_orc_ok hrc) pX_ok_RX11 mo_factor_code_ok (px_k0) 81 132 _ _ h q e
set_option maxRecDepth 200000 in
theorem mo_factor_67_ok {d : Nat} {rc : pC} (hrc : px_Or (d + 4) rc) : ∀ (x2 : Int32) (h : pH) (q : Int32 × pH), mo_factor_67 rc x2 h = some q → px_G (d + 4 + 1) (pX_RX11, prog_13_method_32_code, 4, (some .int)) 67 [some (.inr (.inl 51)), none, some (.inl x2), none] [] h q := by
  intro x2 h q e
  exact px_blk_ok (d := d + 4) (M := (pX_RX11, prog_13_method_32_code, 4, (some .int))) (C := mo_factor_orc rc) (code := mo_factor_code) (ld := [132]) (kl := [(132, fun ls st h => px_if (px_fit [0, 0, 0, 0] ls && px_fits [1] st) (mo_factor_132 rc (px_si st 0) h))]) (mo_factor_orc_ok hrc) pX_ok_RX11 mo_factor_code_ok (px_k1 (px_ko (ts := [0, 0, 0, 0]) (ss := [1]) fun ls st h q e => mo_factor_132_ok hrc _ _ _ e) px_k0) 81 67 _ _ h q e
set_option maxRecDepth 200000 in
theorem mo_factor_ok {d : Nat} {rc : pC} (hrc : px_Or (d + 4) rc) {x1 : Int32} {h : pH} {q : Int32 × pH} (e : mo_factor rc x1 h = some q) : px_Con (d + 5) 204 [.inr (.inl 51), .inl x1] h q :=
  px_con (X := pX_RX11) (b := prog_13_method_32_code) (nL := 4) (rt := (some .int)) rfl rfl (Nat.le_of_ble_eq_true rfl) rfl (px_blk_ok (d := d + 4) (M := (pX_RX11, prog_13_method_32_code, 4, (some .int))) (C := mo_factor_orc rc) (code := mo_factor_code) (ld := [67]) (kl := [(67, fun ls st h => px_if (px_fit [61, 0, 1, 0] ls && px_fits [] st) (mo_factor_67 rc (px_gi ls 2) h))]) (mo_factor_orc_ok hrc) pX_ok_RX11 mo_factor_code_ok (px_k1 (px_ko (ts := [61, 0, 1, 0]) (ss := []) fun ls st h q e => mo_factor_67_ok hrc _ _ _ e) px_k0) 81 0 _ _ _ q e)
noncomputable def mo_exprG : Nat → pC
  | 0 => fun _ _ _ => none
  | n + 1 => px_orc [(200, fun a h => match a with
      | [.inr (.inl 51), .inl v1] => mo_held (mo_exprG n) v1 h
      | _ => none), (201, fun a h => match a with
      | [.inr (.inl 51), .inl v1] => mo_sum (mo_exprG n) v1 h
      | _ => none), (202, fun a h => match a with
      | [.inr (.inl 51), .inl v1] => mo_product (mo_exprG n) v1 h
      | _ => none), (204, fun a h => match a with
      | [.inr (.inl 51), .inl v1] => mo_factor (mo_exprG n) v1 h
      | _ => none)]
theorem mo_exprG_ok {d : Nat} : ∀ n : Nat, px_Or (d + n + 4) (mo_exprG n) := by
  intro n
  induction n with
  | zero => intro id a h q e; cases e
  | succ n ih =>
    show px_Or (d + n + 4 + 1) _
    refine px_orc_ok ?_
    refine px_o1 (fun a h q e => by
      dsimp only at e
      split at e
      · exact mo_held_ok (d := d + n) ih e
      · cases e) ?_
    refine px_o1 (fun a h q e => by
      dsimp only at e
      split at e
      · exact mo_sum_ok (d := d + n) ih e
      · cases e) ?_
    refine px_o1 (fun a h q e => by
      dsimp only at e
      split at e
      · exact mo_product_ok (d := d + n) ih e
      · cases e) ?_
    refine px_o1 (fun a h q e => by
      dsimp only at e
      split at e
      · exact mo_factor_ok (d := d + n) ih e
      · cases e) ?_
    exact px_o0
noncomputable def mo_heldT (x1 : Int32) (h : pH) : pR := mo_exprG 100 200 [.inr (.inl 51), .inl x1] h
theorem mo_heldT_ok {d : Nat} {x1 : Int32} {h : pH} {q : Int32 × pH} (e : mo_heldT x1 h = some q) : px_Con (d + 104) 200 [.inr (.inl 51), .inl x1] h q := mo_exprG_ok (d := d) 100 200 _ h q e
/-! WordsUnsaidModel.rule()I -/
noncomputable def mo_rule_73 : Nat → Int32 → Int32 → pH → pR
  | 0, _, _, _ => none
  | n + 1, x1, x2, h =>
    if x1 ≤ x2 then
      let h1 := px_w h 51 26 x1
      some (px_c 0, h1)
    else
      px_if (px_ok 1 58 x2 || px_ok 3 58 x2) <|
      px_if (px_ok 1 63 x2) <|
      let h2 := px_w h 63 x2.toNatClampNeg (px_nb (h 58 x2.toNatClampNeg))
      mo_rule_73 n x1 (x2 + px_c 1) h2
noncomputable def mo_rule_71 (x1 : Int32) (h : pH) : pR :=
  mo_rule_73 px_F x1 (px_c 0) h
noncomputable def mo_rule_57 (x1 : Int32) (h : pH) : pR :=
  px_bind (mo_fine h) fun z1 h2 =>
  if z1 = 0 then
    some ((px_c (-1)) - (h2 51 19), h2)
  else
    mo_rule_71 x1 h2
noncomputable def mo_rule (h : pH) : pR :=
  let h1 := px_w h 51 14 (px_c 0)
  let y1_2 := h1 51 11
  px_bind (mo_begin 58 y1_2 (px_c 40) h1) fun _ h4 =>
  let h5 := px_w h4 51 11 (px_c 0)
  px_if (decide (px_c 0 = 0) || decide (px_c 0 = 1)) <|
  let h6 := px_w h5 51 27 (px_c 0)
  if y1_2 ≤ 0 then
    mo_rule_71 y1_2 h6
  else
    px_bind (mo_heldT (px_c 0) h6) fun z7 h8 =>
    if y1_2 ≤ (h8 51 18) then
      mo_rule_57 y1_2 h8
    else
      px_bind (mo_fault (h8 51 18) h8) fun _ h10 =>
      mo_rule_57 y1_2 h10
def mo_rule_code : pCode := [(0, .aload_n 0, 1), (1, .iconst 0, 1), (2, .putfield 106, 3), (5, .aload_n 0, 1), (6, .getfield 129, 3), (9, .istore_n 1, 1), (10, .aload_n 0, 1), (11, .aload_n 0, 1), (12, .getfield 32, 3), (15, .iload_n 1, 1), (16, .bipush (40), 2), (18, .invokevirtual 171, 3), (21, .aload_n 0, 1), (22, .iconst 0, 1), (23, .putfield 129, 3), (26, .aload_n 0, 1), (27, .iconst 0, 1), (28, .putfield 215, 3), (31, .iload_n 1, 1), (32, .ifCond .le (39), 3), (35, .aload_n 0, 1), (36, .iconst 0, 1), (37, .invokevirtual 209, 3), (40, .pop, 1), (41, .aload_n 0, 1), (42, .getfield 141, 3), (45, .iload_n 1, 1), (46, .if_icmp .ge (11), 3), (49, .aload_n 0, 1), (50, .aload_n 0, 1), (51, .getfield 141, 3), (54, .invokevirtual 159, 3), (57, .aload_n 0, 1), (58, .invokevirtual 147, 3), (61, .ifCond .ne (10), 3), (64, .iconst (-1), 1), (65, .aload_n 0, 1), (66, .getfield 144, 3), (69, .isub, 1), (70, .ireturn, 1), (71, .iconst 0, 1), (72, .istore_n 2, 1), (73, .iload_n 2, 1), (74, .iload_n 1, 1), (75, .if_icmp .ge (21), 3), (78, .aload_n 0, 1), (79, .getfield 48, 3), (82, .iload_n 2, 1), (83, .aload_n 0, 1), (84, .getfield 32, 3), (87, .iload_n 2, 1), (88, .baload, 1), (89, .bastore, 1), (90, .iinc 2 (1), 3), (93, .goto (-20), 3), (96, .aload_n 0, 1), (97, .iload_n 1, 1), (98, .putfield 219, 3), (101, .iconst 0, 1), (102, .ireturn, 1)]
set_option maxRecDepth 200000 in
theorem mo_rule_code_ok : px_code prog_13_method_33_code mo_rule_code = true := by decide +kernel
noncomputable def mo_rule_orc : pC := px_orc [(189, fun a h => match a with
    | [.inr (.inl 51)] => mo_fine h
    | _ => none), (187, fun a h => match a with
    | [.inr (.inl 51), .inr (.inl v1), .inl v2, .inl v3] => mo_begin v1 v2 v3 h
    | _ => none), (200, fun a h => match a with
    | [.inr (.inl 51), .inl v1] => mo_heldT v1 h
    | _ => none), (190, fun a h => match a with
    | [.inr (.inl 51), .inl v1] => mo_fault v1 h
    | _ => none)]
theorem mo_rule_orc_ok {d : Nat} : px_Or (d + 104) (mo_rule_orc) := px_orc_ok (by
  refine px_o1 (fun a h q e => by
    dsimp only at e
    split at e
    · exact mo_fine_ok (d := d + 103) e
    · cases e) ?_
  refine px_o1 (fun a h q e => by
    dsimp only at e
    split at e
    · exact mo_begin_ok (d := d + 103) e
    · cases e) ?_
  refine px_o1 (fun a h q e => by
    dsimp only at e
    split at e
    · exact mo_heldT_ok (d := d + 0) e
    · cases e) ?_
  refine px_o1 (fun a h q e => by
    dsimp only at e
    split at e
    · exact mo_fault_ok (d := d + 102) e
    · cases e) ?_
  exact px_o0)
set_option maxRecDepth 200000 in
theorem mo_rule_73_ok {d : Nat} : ∀ (n : Nat) (x1 : Int32) (x2 : Int32) (h : pH) (q : Int32 × pH), mo_rule_73 n x1 x2 h = some q → px_G (d + 104 + 1) (pX_RX11, prog_13_method_33_code, 3, (some .int)) 73 [some (.inr (.inl 51)), some (.inl x1), some (.inl x2)] [] h q := by
  intro n
  induction n with
  | zero =>
    intro x1 x2 h q e
    cases e
  | succ n ih =>
    intro x1 x2 h q e
    exact px_blk_ok (d := d + 104) (M := (pX_RX11, prog_13_method_33_code, 3, (some .int))) (C := mo_rule_orc) (code := mo_rule_code) (ld := [73]) (kl := [(73, fun ls st h => px_if (px_fit [61, 1, 1] ls && px_fits [] st) (mo_rule_73 n (px_gi ls 1) (px_gi ls 2) h))]) (mo_rule_orc_ok) pX_ok_RX11 mo_rule_code_ok (px_k1 (px_ko (ts := [61, 1, 1]) (ss := []) fun ls st h q e => ih _ _ _ _ e) px_k0) 65 73 _ _ h q e
set_option maxRecDepth 200000 in
theorem mo_rule_71_ok {d : Nat} : ∀ (x1 : Int32) (h : pH) (q : Int32 × pH), mo_rule_71 x1 h = some q → px_G (d + 104 + 1) (pX_RX11, prog_13_method_33_code, 3, (some .int)) 71 [some (.inr (.inl 51)), some (.inl x1), none] [] h q := by
  intro x1 h q e
  exact px_blk_ok (d := d + 104) (M := (pX_RX11, prog_13_method_33_code, 3, (some .int))) (C := mo_rule_orc) (code := mo_rule_code) (ld := [73]) (kl := [(73, fun ls st h => px_if (px_fit [61, 1, 1] ls && px_fits [] st) (mo_rule_73 px_F (px_gi ls 1) (px_gi ls 2) h))]) (mo_rule_orc_ok) pX_ok_RX11 mo_rule_code_ok (px_k1 (px_ko (ts := [61, 1, 1]) (ss := []) fun ls st h q e => mo_rule_73_ok _ _ _ _ _ e) px_k0) 65 71 _ _ h q e
set_option maxRecDepth 200000 in
theorem mo_rule_57_ok {d : Nat} : ∀ (x1 : Int32) (h : pH) (q : Int32 × pH), mo_rule_57 x1 h = some q → px_G (d + 104 + 1) (pX_RX11, prog_13_method_33_code, 3, (some .int)) 57 [some (.inr (.inl 51)), some (.inl x1), none] [] h q := by
  intro x1 h q e
  exact px_blk_ok (d := d + 104) (M := (pX_RX11, prog_13_method_33_code, 3, (some .int))) (C := mo_rule_orc) (code := mo_rule_code) (ld := [71]) (kl := [(71, fun ls st h => px_if (px_fit [61, 1, 0] ls && px_fits [] st) (mo_rule_71 (px_gi ls 1) h))]) (mo_rule_orc_ok) pX_ok_RX11 mo_rule_code_ok (px_k1 (px_ko (ts := [61, 1, 0]) (ss := []) fun ls st h q e => mo_rule_71_ok _ _ _ e) px_k0) 65 57 _ _ h q e
set_option maxRecDepth 200000 in
theorem mo_rule_ok {d : Nat} {h : pH} {q : Int32 × pH} (e : mo_rule h = some q) : px_Con (d + 105) 205 [.inr (.inl 51)] h q :=
  px_con (X := pX_RX11) (b := prog_13_method_33_code) (nL := 3) (rt := (some .int)) rfl rfl (Nat.le_of_ble_eq_true rfl) rfl (px_blk_ok (d := d + 104) (M := (pX_RX11, prog_13_method_33_code, 3, (some .int))) (C := mo_rule_orc) (code := mo_rule_code) (ld := [57, 71]) (kl := [(57, fun ls st h => px_if (px_fit [61, 1, 0] ls && px_fits [] st) (mo_rule_57 (px_gi ls 1) h)), (71, fun ls st h => px_if (px_fit [61, 1, 0] ls && px_fits [] st) (mo_rule_71 (px_gi ls 1) h))]) (mo_rule_orc_ok) pX_ok_RX11 mo_rule_code_ok (px_k1 (px_ko (ts := [61, 1, 0]) (ss := []) fun ls st h q e => mo_rule_57_ok _ _ _ e) (px_k1 (px_ko (ts := [61, 1, 0]) (ss := []) fun ls st h q e => mo_rule_71_ok _ _ _ e) px_k0)) 65 0 _ _ _ q e)
/-! WordsUnsaidModel.pressureOf([IIIII)I -/
noncomputable def mo_pressureOf_115 (s0 : Int32) (s1 : Int32) (h : pH) : pR :=
  px_if (px_ok 0 64 s1) <|
  let h1 := px_w h 64 s1.toNatClampNeg s0
  px_bind (mo_begin 63 (h1 51 26) (px_c 40) h1) fun _ h3 =>
  px_if (decide (px_c 1 = 0) || decide (px_c 1 = 1)) <|
  let h4 := px_w h3 51 27 (px_c 1)
  px_bind (mo_heldT (px_c 0) h4) fun z5 h6 =>
  px_if (decide (px_c 0 = 0) || decide (px_c 0 = 1)) <|
  let h7 := px_w h6 51 27 (px_c 0)
  some (z5, h7)
noncomputable def mo_pressureOf_114 (s0 : Int32) (h : pH) : pR :=
  mo_pressureOf_115 (px_c 0) s0 h
noncomputable def mo_pressureOf (a1 : Nat) (x2 : Int32) (x3 : Int32) (x4 : Int32) (x5 : Int32) (h : pH) : pR :=
  if (h 51 26) = 0 then
    px_if (px_ok 0 56 x2) <|
    if (px_c 2) = 0 then none else
    some ((h 56 x2.toNatClampNeg) + (x3 / (px_c 2)), h)
  else
    px_if (px_ok 0 56 x2) <|
    px_if (px_ok 0 64 (px_c 0)) <|
    let h1 := px_w h 64 (px_c 0).toNatClampNeg (h 56 x2.toNatClampNeg)
    px_if (px_ok 0 64 (px_c 1)) <|
    let h2 := px_w h1 64 (px_c 1).toNatClampNeg x3
    px_if (px_ok 0 a1 ((px_c 12) + x2)) <|
    px_if (px_ok 0 64 (px_c 2)) <|
    let h3 := px_w h2 64 (px_c 2).toNatClampNeg (h2 a1 ((px_c 12) + x2).toNatClampNeg)
    px_if (px_ok 0 64 (px_c 3)) <|
    let h4 := px_w h3 64 (px_c 3).toNatClampNeg x4
    px_bind (jn_bitCount x5 h4) fun z5 h6 =>
    px_if (px_ok 0 64 (px_c 4)) <|
    let h7 := px_w h6 64 (px_c 4).toNatClampNeg z5
    px_if (px_ok 0 a1 ((px_c 32) + x2)) <|
    px_if (px_ok 0 64 (px_c 5)) <|
    let h8 := px_w h7 64 (px_c 5).toNatClampNeg (h7 a1 ((px_c 32) + x2).toNatClampNeg)
    px_if (px_ok 0 57 x2) <|
    if (h8 57 x2.toNatClampNeg) = (px_c (-1)) then
      mo_pressureOf_114 (px_c 6) h8
    else
      px_if (px_ok 0 57 x2) <|
      px_bind (mo_has x5 (h8 57 x2.toNatClampNeg) h8) fun z9 h10 =>
      if z9 = 0 then
        mo_pressureOf_114 (px_c 6) h10
      else
        mo_pressureOf_115 (px_c 1) (px_c 6) h10
def mo_pressureOf_code : pCode := [(0, .aload_n 0, 1), (1, .getfield 219, 3), (4, .ifCond .ne (14), 3), (7, .aload_n 0, 1), (8, .getfield 26, 3), (11, .iload_n 2, 1), (12, .iaload, 1), (13, .iload_n 3, 1), (14, .iconst 2, 1), (15, .idiv, 1), (16, .iadd, 1), (17, .ireturn, 1), (18, .aload_n 0, 1), (19, .getfield 51, 3), (22, .iconst 0, 1), (23, .aload_n 0, 1), (24, .getfield 26, 3), (27, .iload_n 2, 1), (28, .iaload, 1), (29, .iastore, 1), (30, .aload_n 0, 1), (31, .getfield 51, 3), (34, .iconst 1, 1), (35, .iload_n 3, 1), (36, .iastore, 1), (37, .aload_n 0, 1), (38, .getfield 51, 3), (41, .iconst 2, 1), (42, .aload_n 1, 1), (43, .bipush (12), 2), (45, .iload_n 2, 1), (46, .iadd, 1), (47, .iaload, 1), (48, .iastore, 1), (49, .aload_n 0, 1), (50, .getfield 51, 3), (53, .iconst 3, 1), (54, .iload 4, 2), (56, .iastore, 1), (57, .aload_n 0, 1), (58, .getfield 51, 3), (61, .iconst 4, 1), (62, .iload 5, 2), (64, .invokestatic 222, 3), (67, .iastore, 1), (68, .aload_n 0, 1), (69, .getfield 51, 3), (72, .iconst 5, 1), (73, .aload_n 1, 1), (74, .bipush (32), 2), (76, .iload_n 2, 1), (77, .iadd, 1), (78, .iaload, 1), (79, .iastore, 1), (80, .aload_n 0, 1), (81, .getfield 51, 3), (84, .bipush (6), 2), (86, .aload_n 0, 1), (87, .getfield 29, 3), (90, .iload_n 2, 1), (91, .iaload, 1), (92, .iconst (-1), 1), (93, .if_icmp .eq (21), 3), (96, .iload 5, 2), (98, .aload_n 0, 1), (99, .getfield 29, 3), (102, .iload_n 2, 1), (103, .iaload, 1), (104, .invokestatic 227, 3), (107, .ifCond .eq (7), 3), (110, .iconst 1, 1), (111, .goto (4), 3), (114, .iconst 0, 1), (115, .iastore, 1), (116, .aload_n 0, 1), (117, .aload_n 0, 1), (118, .getfield 48, 3), (121, .aload_n 0, 1), (122, .getfield 219, 3), (125, .bipush (40), 2), (127, .invokevirtual 171, 3), (130, .aload_n 0, 1), (131, .iconst 1, 1), (132, .putfield 215, 3), (135, .aload_n 0, 1), (136, .iconst 0, 1), (137, .invokevirtual 209, 3), (140, .istore 6, 2), (142, .aload_n 0, 1), (143, .iconst 0, 1), (144, .putfield 215, 3), (147, .iload 6, 2), (149, .ireturn, 1)]
set_option maxRecDepth 200000 in
theorem mo_pressureOf_code_ok : px_code prog_13_method_34_code mo_pressureOf_code = true := by decide +kernel
noncomputable def mo_pressureOf_orc : pC := px_orc [(187, fun a h => match a with
    | [.inr (.inl 51), .inr (.inl v1), .inl v2, .inl v3] => mo_begin v1 v2 v3 h
    | _ => none), (200, fun a h => match a with
    | [.inr (.inl 51), .inl v1] => mo_heldT v1 h
    | _ => none), (279, fun a h => match a with
    | [.inl v0] => jn_bitCount v0 h
    | _ => none), (176, fun a h => match a with
    | [.inl v0, .inl v1] => mo_has v0 v1 h
    | _ => none)]
theorem mo_pressureOf_orc_ok {d : Nat} : px_Or (d + 104) (mo_pressureOf_orc) := px_orc_ok (by
  refine px_o1 (fun a h q e => by
    dsimp only at e
    split at e
    · exact mo_begin_ok (d := d + 103) e
    · cases e) ?_
  refine px_o1 (fun a h q e => by
    dsimp only at e
    split at e
    · exact mo_heldT_ok (d := d + 0) e
    · cases e) ?_
  refine px_o1 (fun a h q e => by
    dsimp only at e
    split at e
    · exact jn_bitCount_ok (d := d + 103) e
    · cases e) ?_
  refine px_o1 (fun a h q e => by
    dsimp only at e
    split at e
    · exact mo_has_ok (d := d + 103) e
    · cases e) ?_
  exact px_o0)
set_option maxRecDepth 200000 in
theorem mo_pressureOf_115_ok {d : Nat} : ∀ (s0 : Int32) (s1 : Int32) (h : pH) (q : Int32 × pH), mo_pressureOf_115 s0 s1 h = some q → px_G (d + 104 + 1) (pX_RX11, prog_13_method_34_code, 7, (some .int)) 115 [some (.inr (.inl 51)), none, none, none, none, none, none] [.inl s0, .inl s1, .inr (.inl 64)] h q := by
  intro s0 s1 h q e
  exact px_blk_ok (d := d + 104) (M := (pX_RX11, prog_13_method_34_code, 7, (some .int))) (C := mo_pressureOf_orc) (code := mo_pressureOf_code) (ld := []) (kl := []) (mo_pressureOf_orc_ok) pX_ok_RX11 mo_pressureOf_code_ok (px_k0) 98 115 _ _ h q e
set_option maxRecDepth 200000 in
theorem mo_pressureOf_114_ok {d : Nat} : ∀ (s0 : Int32) (h : pH) (q : Int32 × pH), mo_pressureOf_114 s0 h = some q → px_G (d + 104 + 1) (pX_RX11, prog_13_method_34_code, 7, (some .int)) 114 [some (.inr (.inl 51)), none, none, none, none, none, none] [.inl s0, .inr (.inl 64)] h q := by
  intro s0 h q e
  exact px_blk_ok (d := d + 104) (M := (pX_RX11, prog_13_method_34_code, 7, (some .int))) (C := mo_pressureOf_orc) (code := mo_pressureOf_code) (ld := [115]) (kl := [(115, fun ls st h => px_if (px_fit [61, 0, 0, 0, 0, 0, 0] ls && px_fits [1, 1, 74] st) (mo_pressureOf_115 (px_si st 0) (px_si st 1) h))]) (mo_pressureOf_orc_ok) pX_ok_RX11 mo_pressureOf_code_ok (px_k1 (px_ko (ts := [61, 0, 0, 0, 0, 0, 0]) (ss := [1, 1, 74]) fun ls st h q e => mo_pressureOf_115_ok _ _ _ _ e) px_k0) 98 114 _ _ h q e
set_option maxRecDepth 200000 in
theorem mo_pressureOf_ok {d : Nat} {a1 : Nat} {x2 : Int32} {x3 : Int32} {x4 : Int32} {x5 : Int32} {h : pH} {q : Int32 × pH} (e : mo_pressureOf a1 x2 x3 x4 x5 h = some q) : px_Con (d + 105) 206 [.inr (.inl 51), .inr (.inl a1), .inl x2, .inl x3, .inl x4, .inl x5] h q :=
  px_con (X := pX_RX11) (b := prog_13_method_34_code) (nL := 7) (rt := (some .int)) rfl rfl (Nat.le_of_ble_eq_true rfl) rfl (px_blk_ok (d := d + 104) (M := (pX_RX11, prog_13_method_34_code, 7, (some .int))) (C := mo_pressureOf_orc) (code := mo_pressureOf_code) (ld := [114, 115]) (kl := [(114, fun ls st h => px_if (px_fit [61, 0, 0, 0, 0, 0, 0] ls && px_fits [1, 74] st) (mo_pressureOf_114 (px_si st 0) h)), (115, fun ls st h => px_if (px_fit [61, 0, 0, 0, 0, 0, 0] ls && px_fits [1, 1, 74] st) (mo_pressureOf_115 (px_si st 0) (px_si st 1) h))]) (mo_pressureOf_orc_ok) pX_ok_RX11 mo_pressureOf_code_ok (px_k1 (px_ko (ts := [61, 0, 0, 0, 0, 0, 0]) (ss := [1, 74]) fun ls st h q e => mo_pressureOf_114_ok _ _ _ e) (px_k1 (px_ko (ts := [61, 0, 0, 0, 0, 0, 0]) (ss := [1, 1, 74]) fun ls st h q e => mo_pressureOf_115_ok _ _ _ _ e) px_k0)) 98 0 _ _ _ q e)
/-! WordsUnsaidModel.peopleAt(I)I -/
noncomputable def mo_peopleAt_30 (r4 : Int32 → Int32 → Int32 → pH → pR) (x1 : Int32) (x3 : Int32) (s0 : Int32) (s1 : Int32) (h : pH) : pR :=
  let y2_1 := s1 ||| s0
  r4 x1 y2_1 (x3 + px_c 1) h
noncomputable def mo_peopleAt_4 : Nat → Int32 → Int32 → Int32 → pH → pR
  | 0, _, _, _, _ => none
  | n + 1, x1, x2, x3, h =>
    if (h 51 4) ≤ x3 then
      some (x2, h)
    else
      px_if (px_ok 0 52 x3) <|
      if (h 52 x3.toNatClampNeg) = x1 then
        mo_peopleAt_30 (mo_peopleAt_4 n) x1 x3 ((px_c 1) <<< (x3 &&& 31)) x2 h
      else
        mo_peopleAt_30 (mo_peopleAt_4 n) x1 x3 (px_c 0) x2 h
noncomputable def mo_peopleAt (x1 : Int32) (h : pH) : pR :=
  mo_peopleAt_4 px_F x1 (px_c 0) (px_c 0) h
def mo_peopleAt_code : pCode := [(0, .iconst 0, 1), (1, .istore_n 2, 1), (2, .iconst 0, 1), (3, .istore_n 3, 1), (4, .iload_n 3, 1), (5, .aload_n 0, 1), (6, .getfield 112, 3), (9, .if_icmp .ge (29), 3), (12, .iload_n 2, 1), (13, .aload_n 0, 1), (14, .getfield 9, 3), (17, .iload_n 3, 1), (18, .iaload, 1), (19, .iload_n 1, 1), (20, .if_icmp .ne (9), 3), (23, .iconst 1, 1), (24, .iload_n 3, 1), (25, .ishl, 1), (26, .goto (4), 3), (29, .iconst 0, 1), (30, .ior, 1), (31, .istore_n 2, 1), (32, .iinc 3 (1), 3), (35, .goto (-31), 3), (38, .iload_n 2, 1), (39, .ireturn, 1)]
set_option maxRecDepth 200000 in
theorem mo_peopleAt_code_ok : px_code prog_13_method_35_code mo_peopleAt_code = true := by decide +kernel
noncomputable def mo_peopleAt_orc : pC := px_orc []
theorem mo_peopleAt_orc_ok {d : Nat} : px_Or (d + 0) (mo_peopleAt_orc) := px_orc_ok (by
  exact px_o0)
set_option maxRecDepth 200000 in
theorem mo_peopleAt_30_ok {d : Nat} {r4 : Int32 → Int32 → Int32 → pH → pR} (hr4 : ∀ (x1 : Int32) (x2 : Int32) (x3 : Int32) (h : pH) (q : Int32 × pH), r4 x1 x2 x3 h = some q → px_G (d + 0 + 1) (pX_RX11, prog_13_method_35_code, 4, (some .int)) 4 [some (.inr (.inl 51)), some (.inl x1), some (.inl x2), some (.inl x3)] [] h q) : ∀ (x1 : Int32) (x3 : Int32) (s0 : Int32) (s1 : Int32) (h : pH) (q : Int32 × pH), mo_peopleAt_30 r4 x1 x3 s0 s1 h = some q → px_G (d + 0 + 1) (pX_RX11, prog_13_method_35_code, 4, (some .int)) 30 [some (.inr (.inl 51)), some (.inl x1), none, some (.inl x3)] [.inl s0, .inl s1] h q := by
  intro x1 x3 s0 s1 h q e
  exact px_blk_ok (d := d + 0) (M := (pX_RX11, prog_13_method_35_code, 4, (some .int))) (C := mo_peopleAt_orc) (code := mo_peopleAt_code) (ld := [4]) (kl := [(4, fun ls st h => px_if (px_fit [61, 1, 1, 1] ls && px_fits [] st) (r4 (px_gi ls 1) (px_gi ls 2) (px_gi ls 3) h))]) (mo_peopleAt_orc_ok) pX_ok_RX11 mo_peopleAt_code_ok (px_k1 (px_ko (ts := [61, 1, 1, 1]) (ss := []) fun ls st h q e => hr4 _ _ _ _ _ e) px_k0) 31 30 _ _ h q e
set_option maxRecDepth 200000 in
theorem mo_peopleAt_4_ok {d : Nat} : ∀ (n : Nat) (x1 : Int32) (x2 : Int32) (x3 : Int32) (h : pH) (q : Int32 × pH), mo_peopleAt_4 n x1 x2 x3 h = some q → px_G (d + 0 + 1) (pX_RX11, prog_13_method_35_code, 4, (some .int)) 4 [some (.inr (.inl 51)), some (.inl x1), some (.inl x2), some (.inl x3)] [] h q := by
  intro n
  induction n with
  | zero =>
    intro x1 x2 x3 h q e
    cases e
  | succ n ih =>
    intro x1 x2 x3 h q e
    exact px_blk_ok (d := d + 0) (M := (pX_RX11, prog_13_method_35_code, 4, (some .int))) (C := mo_peopleAt_orc) (code := mo_peopleAt_code) (ld := [30]) (kl := [(30, fun ls st h => px_if (px_fit [61, 1, 0, 1] ls && px_fits [1, 1] st) (mo_peopleAt_30 (mo_peopleAt_4 n) (px_gi ls 1) (px_gi ls 3) (px_si st 0) (px_si st 1) h))]) (mo_peopleAt_orc_ok) pX_ok_RX11 mo_peopleAt_code_ok (px_k1 (px_ko (ts := [61, 1, 0, 1]) (ss := [1, 1]) fun ls st h q e => mo_peopleAt_30_ok ih _ _ _ _ _ _ e) px_k0) 31 4 _ _ h q e
set_option maxRecDepth 200000 in
theorem mo_peopleAt_ok {d : Nat} {x1 : Int32} {h : pH} {q : Int32 × pH} (e : mo_peopleAt x1 h = some q) : px_Con (d + 1) 207 [.inr (.inl 51), .inl x1] h q :=
  px_con (X := pX_RX11) (b := prog_13_method_35_code) (nL := 4) (rt := (some .int)) rfl rfl (Nat.le_of_ble_eq_true rfl) rfl (px_blk_ok (d := d + 0) (M := (pX_RX11, prog_13_method_35_code, 4, (some .int))) (C := mo_peopleAt_orc) (code := mo_peopleAt_code) (ld := [4]) (kl := [(4, fun ls st h => px_if (px_fit [61, 1, 1, 1] ls && px_fits [] st) (mo_peopleAt_4 px_F (px_gi ls 1) (px_gi ls 2) (px_gi ls 3) h))]) (mo_peopleAt_orc_ok) pX_ok_RX11 mo_peopleAt_code_ok (px_k1 (px_ko (ts := [61, 1, 1, 1]) (ss := []) fun ls st h q e => mo_peopleAt_4_ok _ _ _ _ _ _ e) px_k0) 31 0 _ _ _ q e)
/-! WordsUnsaidModel.thingsOf([II)I -/
noncomputable def mo_thingsOf_34 (r5 : Nat → Int32 → Int32 → Int32 → pH → pR) (a1 : Nat) (x2 : Int32) (x4 : Int32) (s0 : Int32) (s1 : Int32) (h : pH) : pR :=
  let y3_1 := s1 ||| s0
  r5 a1 x2 y3_1 (x4 + px_c 1) h
noncomputable def mo_thingsOf_5 : Nat → Nat → Int32 → Int32 → Int32 → pH → pR
  | 0, _, _, _, _, _ => none
  | n + 1, a1, x2, x3, x4, h =>
    if (h 51 6) ≤ x4 then
      some (x3, h)
    else
      px_if (px_ok 0 a1 ((px_c 32) + x4)) <|
      if (h a1 ((px_c 32) + x4).toNatClampNeg) = x2 then
        mo_thingsOf_34 (mo_thingsOf_5 n) a1 x2 x4 ((px_c 1) <<< (x4 &&& 31)) x3 h
      else
        mo_thingsOf_34 (mo_thingsOf_5 n) a1 x2 x4 (px_c 0) x3 h
noncomputable def mo_thingsOf (a1 : Nat) (x2 : Int32) (h : pH) : pR :=
  mo_thingsOf_5 px_F a1 x2 (px_c 0) (px_c 0) h
def mo_thingsOf_code : pCode := [(0, .iconst 0, 1), (1, .istore_n 3, 1), (2, .iconst 0, 1), (3, .istore 4, 2), (5, .iload 4, 2), (7, .aload_n 0, 1), (8, .getfield 119, 3), (11, .if_icmp .ge (31), 3), (14, .iload_n 3, 1), (15, .aload_n 1, 1), (16, .bipush (32), 2), (18, .iload 4, 2), (20, .iadd, 1), (21, .iaload, 1), (22, .iload_n 2, 1), (23, .if_icmp .ne (10), 3), (26, .iconst 1, 1), (27, .iload 4, 2), (29, .ishl, 1), (30, .goto (4), 3), (33, .iconst 0, 1), (34, .ior, 1), (35, .istore_n 3, 1), (36, .iinc 4 (1), 3), (39, .goto (-34), 3), (42, .iload_n 3, 1), (43, .ireturn, 1)]
set_option maxRecDepth 200000 in
theorem mo_thingsOf_code_ok : px_code prog_13_method_36_code mo_thingsOf_code = true := by decide +kernel
noncomputable def mo_thingsOf_orc : pC := px_orc []
theorem mo_thingsOf_orc_ok {d : Nat} : px_Or (d + 0) (mo_thingsOf_orc) := px_orc_ok (by
  exact px_o0)
set_option maxRecDepth 200000 in
theorem mo_thingsOf_34_ok {d : Nat} {r5 : Nat → Int32 → Int32 → Int32 → pH → pR} (hr5 : ∀ (a1 : Nat) (x2 : Int32) (x3 : Int32) (x4 : Int32) (h : pH) (q : Int32 × pH), r5 a1 x2 x3 x4 h = some q → px_G (d + 0 + 1) (pX_RX11, prog_13_method_36_code, 5, (some .int)) 5 [some (.inr (.inl 51)), some (.inr (.inl a1)), some (.inl x2), some (.inl x3), some (.inl x4)] [] h q) : ∀ (a1 : Nat) (x2 : Int32) (x4 : Int32) (s0 : Int32) (s1 : Int32) (h : pH) (q : Int32 × pH), mo_thingsOf_34 r5 a1 x2 x4 s0 s1 h = some q → px_G (d + 0 + 1) (pX_RX11, prog_13_method_36_code, 5, (some .int)) 34 [some (.inr (.inl 51)), some (.inr (.inl a1)), some (.inl x2), none, some (.inl x4)] [.inl s0, .inl s1] h q := by
  intro a1 x2 x4 s0 s1 h q e
  exact px_blk_ok (d := d + 0) (M := (pX_RX11, prog_13_method_36_code, 5, (some .int))) (C := mo_thingsOf_orc) (code := mo_thingsOf_code) (ld := [5]) (kl := [(5, fun ls st h => px_if (px_fit [61, 2, 1, 1, 1] ls && px_fits [] st) (r5 (px_gr ls 1) (px_gi ls 2) (px_gi ls 3) (px_gi ls 4) h))]) (mo_thingsOf_orc_ok) pX_ok_RX11 mo_thingsOf_code_ok (px_k1 (px_ko (ts := [61, 2, 1, 1, 1]) (ss := []) fun ls st h q e => hr5 _ _ _ _ _ _ e) px_k0) 32 34 _ _ h q e
set_option maxRecDepth 200000 in
theorem mo_thingsOf_5_ok {d : Nat} : ∀ (n : Nat) (a1 : Nat) (x2 : Int32) (x3 : Int32) (x4 : Int32) (h : pH) (q : Int32 × pH), mo_thingsOf_5 n a1 x2 x3 x4 h = some q → px_G (d + 0 + 1) (pX_RX11, prog_13_method_36_code, 5, (some .int)) 5 [some (.inr (.inl 51)), some (.inr (.inl a1)), some (.inl x2), some (.inl x3), some (.inl x4)] [] h q := by
  intro n
  induction n with
  | zero =>
    intro a1 x2 x3 x4 h q e
    cases e
  | succ n ih =>
    intro a1 x2 x3 x4 h q e
    exact px_blk_ok (d := d + 0) (M := (pX_RX11, prog_13_method_36_code, 5, (some .int))) (C := mo_thingsOf_orc) (code := mo_thingsOf_code) (ld := [34]) (kl := [(34, fun ls st h => px_if (px_fit [61, 2, 1, 0, 1] ls && px_fits [1, 1] st) (mo_thingsOf_34 (mo_thingsOf_5 n) (px_gr ls 1) (px_gi ls 2) (px_gi ls 4) (px_si st 0) (px_si st 1) h))]) (mo_thingsOf_orc_ok) pX_ok_RX11 mo_thingsOf_code_ok (px_k1 (px_ko (ts := [61, 2, 1, 0, 1]) (ss := [1, 1]) fun ls st h q e => mo_thingsOf_34_ok ih _ _ _ _ _ _ _ e) px_k0) 32 5 _ _ h q e
set_option maxRecDepth 200000 in
theorem mo_thingsOf_ok {d : Nat} {a1 : Nat} {x2 : Int32} {h : pH} {q : Int32 × pH} (e : mo_thingsOf a1 x2 h = some q) : px_Con (d + 1) 208 [.inr (.inl 51), .inr (.inl a1), .inl x2] h q :=
  px_con (X := pX_RX11) (b := prog_13_method_36_code) (nL := 5) (rt := (some .int)) rfl rfl (Nat.le_of_ble_eq_true rfl) rfl (px_blk_ok (d := d + 0) (M := (pX_RX11, prog_13_method_36_code, 5, (some .int))) (C := mo_thingsOf_orc) (code := mo_thingsOf_code) (ld := [5]) (kl := [(5, fun ls st h => px_if (px_fit [61, 2, 1, 1, 1] ls && px_fits [] st) (mo_thingsOf_5 px_F (px_gr ls 1) (px_gi ls 2) (px_gi ls 3) (px_gi ls 4) h))]) (mo_thingsOf_orc_ok) pX_ok_RX11 mo_thingsOf_code_ok (px_k1 (px_ko (ts := [61, 2, 1, 1, 1]) (ss := []) fun ls st h q e => mo_thingsOf_5_ok _ _ _ _ _ _ _ e) px_k0) 32 0 _ _ _ q e)
/-! WordsUnsaidModel.knownBy(I)I -/
noncomputable def mo_knownBy_36 (r4 : Int32 → Int32 → Int32 → pH → pR) (x1 : Int32) (x3 : Int32) (s0 : Int32) (s1 : Int32) (h : pH) : pR :=
  let y2_1 := s1 ||| s0
  r4 x1 y2_1 (x3 + px_c 1) h
noncomputable def mo_knownBy_4 : Nat → Int32 → Int32 → Int32 → pH → pR
  | 0, _, _, _, _ => none
  | n + 1, x1, x2, x3, h =>
    if (h 51 6) ≤ x3 then
      some (x2, h)
    else
      px_if (px_ok 0 52 ((px_c 42) + x3)) <|
      px_bind (mo_has (h 52 ((px_c 42) + x3).toNatClampNeg) x1 h) fun z1 h2 =>
      if z1 = 0 then
        mo_knownBy_36 (mo_knownBy_4 n) x1 x3 (px_c 0) x2 h2
      else
        mo_knownBy_36 (mo_knownBy_4 n) x1 x3 ((px_c 1) <<< (x3 &&& 31)) x2 h2
noncomputable def mo_knownBy (x1 : Int32) (h : pH) : pR :=
  mo_knownBy_4 px_F x1 (px_c 0) (px_c 0) h
def mo_knownBy_code : pCode := [(0, .iconst 0, 1), (1, .istore_n 2, 1), (2, .iconst 0, 1), (3, .istore_n 3, 1), (4, .iload_n 3, 1), (5, .aload_n 0, 1), (6, .getfield 119, 3), (9, .if_icmp .ge (35), 3), (12, .iload_n 2, 1), (13, .aload_n 0, 1), (14, .getfield 9, 3), (17, .bipush (42), 2), (19, .iload_n 3, 1), (20, .iadd, 1), (21, .iaload, 1), (22, .iload_n 1, 1), (23, .invokestatic 227, 3), (26, .ifCond .eq (9), 3), (29, .iconst 1, 1), (30, .iload_n 3, 1), (31, .ishl, 1), (32, .goto (4), 3), (35, .iconst 0, 1), (36, .ior, 1), (37, .istore_n 2, 1), (38, .iinc 3 (1), 3), (41, .goto (-37), 3), (44, .iload_n 2, 1), (45, .ireturn, 1)]
set_option maxRecDepth 200000 in
theorem mo_knownBy_code_ok : px_code prog_13_method_37_code mo_knownBy_code = true := by decide +kernel
noncomputable def mo_knownBy_orc : pC := px_orc [(176, fun a h => match a with
    | [.inl v0, .inl v1] => mo_has v0 v1 h
    | _ => none)]
theorem mo_knownBy_orc_ok {d : Nat} : px_Or (d + 1) (mo_knownBy_orc) := px_orc_ok (by
  refine px_o1 (fun a h q e => by
    dsimp only at e
    split at e
    · exact mo_has_ok (d := d + 0) e
    · cases e) ?_
  exact px_o0)
set_option maxRecDepth 200000 in
theorem mo_knownBy_36_ok {d : Nat} {r4 : Int32 → Int32 → Int32 → pH → pR} (hr4 : ∀ (x1 : Int32) (x2 : Int32) (x3 : Int32) (h : pH) (q : Int32 × pH), r4 x1 x2 x3 h = some q → px_G (d + 1 + 1) (pX_RX11, prog_13_method_37_code, 4, (some .int)) 4 [some (.inr (.inl 51)), some (.inl x1), some (.inl x2), some (.inl x3)] [] h q) : ∀ (x1 : Int32) (x3 : Int32) (s0 : Int32) (s1 : Int32) (h : pH) (q : Int32 × pH), mo_knownBy_36 r4 x1 x3 s0 s1 h = some q → px_G (d + 1 + 1) (pX_RX11, prog_13_method_37_code, 4, (some .int)) 36 [some (.inr (.inl 51)), some (.inl x1), none, some (.inl x3)] [.inl s0, .inl s1] h q := by
  intro x1 x3 s0 s1 h q e
  exact px_blk_ok (d := d + 1) (M := (pX_RX11, prog_13_method_37_code, 4, (some .int))) (C := mo_knownBy_orc) (code := mo_knownBy_code) (ld := [4]) (kl := [(4, fun ls st h => px_if (px_fit [61, 1, 1, 1] ls && px_fits [] st) (r4 (px_gi ls 1) (px_gi ls 2) (px_gi ls 3) h))]) (mo_knownBy_orc_ok) pX_ok_RX11 mo_knownBy_code_ok (px_k1 (px_ko (ts := [61, 1, 1, 1]) (ss := []) fun ls st h q e => hr4 _ _ _ _ _ e) px_k0) 34 36 _ _ h q e
set_option maxRecDepth 200000 in
theorem mo_knownBy_4_ok {d : Nat} : ∀ (n : Nat) (x1 : Int32) (x2 : Int32) (x3 : Int32) (h : pH) (q : Int32 × pH), mo_knownBy_4 n x1 x2 x3 h = some q → px_G (d + 1 + 1) (pX_RX11, prog_13_method_37_code, 4, (some .int)) 4 [some (.inr (.inl 51)), some (.inl x1), some (.inl x2), some (.inl x3)] [] h q := by
  intro n
  induction n with
  | zero =>
    intro x1 x2 x3 h q e
    cases e
  | succ n ih =>
    intro x1 x2 x3 h q e
    exact px_blk_ok (d := d + 1) (M := (pX_RX11, prog_13_method_37_code, 4, (some .int))) (C := mo_knownBy_orc) (code := mo_knownBy_code) (ld := [36]) (kl := [(36, fun ls st h => px_if (px_fit [61, 1, 0, 1] ls && px_fits [1, 1] st) (mo_knownBy_36 (mo_knownBy_4 n) (px_gi ls 1) (px_gi ls 3) (px_si st 0) (px_si st 1) h))]) (mo_knownBy_orc_ok) pX_ok_RX11 mo_knownBy_code_ok (px_k1 (px_ko (ts := [61, 1, 0, 1]) (ss := [1, 1]) fun ls st h q e => mo_knownBy_36_ok ih _ _ _ _ _ _ e) px_k0) 34 4 _ _ h q e
set_option maxRecDepth 200000 in
theorem mo_knownBy_ok {d : Nat} {x1 : Int32} {h : pH} {q : Int32 × pH} (e : mo_knownBy x1 h = some q) : px_Con (d + 2) 209 [.inr (.inl 51), .inl x1] h q :=
  px_con (X := pX_RX11) (b := prog_13_method_37_code) (nL := 4) (rt := (some .int)) rfl rfl (Nat.le_of_ble_eq_true rfl) rfl (px_blk_ok (d := d + 1) (M := (pX_RX11, prog_13_method_37_code, 4, (some .int))) (C := mo_knownBy_orc) (code := mo_knownBy_code) (ld := [4]) (kl := [(4, fun ls st h => px_if (px_fit [61, 1, 1, 1] ls && px_fits [] st) (mo_knownBy_4 px_F (px_gi ls 1) (px_gi ls 2) (px_gi ls 3) h))]) (mo_knownBy_orc_ok) pX_ok_RX11 mo_knownBy_code_ok (px_k1 (px_ko (ts := [61, 1, 1, 1]) (ss := []) fun ls st h q e => mo_knownBy_4_ok _ _ _ _ _ _ e) px_k0) 34 0 _ _ _ q e)
/-! WordsUnsaidModel.saidOnes([I)I -/
noncomputable def mo_saidOnes_4 : Nat → Nat → Int32 → Int32 → pH → pR
  | 0, _, _, _, _ => none
  | n + 1, a1, x2, x3, h =>
    if (h 51 6) ≤ x3 then
      some (x2, h)
    else
      px_if (px_ok 0 a1 ((px_c 22) + x3)) <|
      let y2_1 := x2 ||| ((h a1 ((px_c 22) + x3).toNatClampNeg) <<< (x3 &&& 31))
      mo_saidOnes_4 n a1 y2_1 (x3 + px_c 1) h
noncomputable def mo_saidOnes (a1 : Nat) (h : pH) : pR :=
  mo_saidOnes_4 px_F a1 (px_c 0) (px_c 0) h
def mo_saidOnes_code : pCode := [(0, .iconst 0, 1), (1, .istore_n 2, 1), (2, .iconst 0, 1), (3, .istore_n 3, 1), (4, .iload_n 3, 1), (5, .aload_n 0, 1), (6, .getfield 119, 3), (9, .if_icmp .ge (20), 3), (12, .iload_n 2, 1), (13, .aload_n 1, 1), (14, .bipush (22), 2), (16, .iload_n 3, 1), (17, .iadd, 1), (18, .iaload, 1), (19, .iload_n 3, 1), (20, .ishl, 1), (21, .ior, 1), (22, .istore_n 2, 1), (23, .iinc 3 (1), 3), (26, .goto (-22), 3), (29, .iload_n 2, 1), (30, .ireturn, 1)]
set_option maxRecDepth 200000 in
theorem mo_saidOnes_code_ok : px_code prog_13_method_38_code mo_saidOnes_code = true := by decide +kernel
noncomputable def mo_saidOnes_orc : pC := px_orc []
theorem mo_saidOnes_orc_ok {d : Nat} : px_Or (d + 0) (mo_saidOnes_orc) := px_orc_ok (by
  exact px_o0)
set_option maxRecDepth 200000 in
theorem mo_saidOnes_4_ok {d : Nat} : ∀ (n : Nat) (a1 : Nat) (x2 : Int32) (x3 : Int32) (h : pH) (q : Int32 × pH), mo_saidOnes_4 n a1 x2 x3 h = some q → px_G (d + 0 + 1) (pX_RX11, prog_13_method_38_code, 4, (some .int)) 4 [some (.inr (.inl 51)), some (.inr (.inl a1)), some (.inl x2), some (.inl x3)] [] h q := by
  intro n
  induction n with
  | zero =>
    intro a1 x2 x3 h q e
    cases e
  | succ n ih =>
    intro a1 x2 x3 h q e
    exact px_blk_ok (d := d + 0) (M := (pX_RX11, prog_13_method_38_code, 4, (some .int))) (C := mo_saidOnes_orc) (code := mo_saidOnes_code) (ld := [4]) (kl := [(4, fun ls st h => px_if (px_fit [61, 2, 1, 1] ls && px_fits [] st) (mo_saidOnes_4 n (px_gr ls 1) (px_gi ls 2) (px_gi ls 3) h))]) (mo_saidOnes_orc_ok) pX_ok_RX11 mo_saidOnes_code_ok (px_k1 (px_ko (ts := [61, 2, 1, 1]) (ss := []) fun ls st h q e => ih _ _ _ _ _ e) px_k0) 27 4 _ _ h q e
set_option maxRecDepth 200000 in
theorem mo_saidOnes_ok {d : Nat} {a1 : Nat} {h : pH} {q : Int32 × pH} (e : mo_saidOnes a1 h = some q) : px_Con (d + 1) 210 [.inr (.inl 51), .inr (.inl a1)] h q :=
  px_con (X := pX_RX11) (b := prog_13_method_38_code) (nL := 4) (rt := (some .int)) rfl rfl (Nat.le_of_ble_eq_true rfl) rfl (px_blk_ok (d := d + 0) (M := (pX_RX11, prog_13_method_38_code, 4, (some .int))) (C := mo_saidOnes_orc) (code := mo_saidOnes_code) (ld := [4]) (kl := [(4, fun ls st h => px_if (px_fit [61, 2, 1, 1] ls && px_fits [] st) (mo_saidOnes_4 px_F (px_gr ls 1) (px_gi ls 2) (px_gi ls 3) h))]) (mo_saidOnes_orc_ok) pX_ok_RX11 mo_saidOnes_code_ok (px_k1 (px_ko (ts := [61, 2, 1, 1]) (ss := []) fun ls st h q e => mo_saidOnes_4_ok _ _ _ _ _ _ e) px_k0) 27 0 _ _ _ q e)
/-! WordsUnsaidModel.leftIn([II)I -/
noncomputable def mo_leftIn_29 (r4 : Nat → Int32 → Int32 → Int32 → pH → pR) (a0 : Nat) (x1 : Int32) (x3 : Int32) (s0 : Int32) (s1 : Int32) (h : pH) : pR :=
  let y2_1 := s1 + s0
  r4 a0 x1 y2_1 (x3 + px_c 1) h
noncomputable def mo_leftIn_4 : Nat → Nat → Int32 → Int32 → Int32 → pH → pR
  | 0, _, _, _, _, _ => none
  | n + 1, a0, x1, x2, x3, h =>
    if (px_c 10) ≤ x3 then
      some (x2, h)
    else
      px_bind (mo_has x1 x3 h) fun z1 h2 =>
      if z1 = 0 then
        mo_leftIn_29 (mo_leftIn_4 n) a0 x1 x3 (px_c 0) x2 h2
      else
        px_if (px_ok 0 a0 ((px_c 12) + x3)) <|
        mo_leftIn_29 (mo_leftIn_4 n) a0 x1 x3 (h2 a0 ((px_c 12) + x3).toNatClampNeg) x2 h2
noncomputable def mo_leftIn (a0 : Nat) (x1 : Int32) (h : pH) : pR :=
  mo_leftIn_4 px_F a0 x1 (px_c 0) (px_c 0) h
def mo_leftIn_code : pCode := [(0, .iconst 0, 1), (1, .istore_n 2, 1), (2, .iconst 0, 1), (3, .istore_n 3, 1), (4, .iload_n 3, 1), (5, .bipush (10), 2), (7, .if_icmp .ge (30), 3), (10, .iload_n 2, 1), (11, .iload_n 1, 1), (12, .iload_n 3, 1), (13, .invokestatic 227, 3), (16, .ifCond .eq (12), 3), (19, .aload_n 0, 1), (20, .bipush (12), 2), (22, .iload_n 3, 1), (23, .iadd, 1), (24, .iaload, 1), (25, .goto (4), 3), (28, .iconst 0, 1), (29, .iadd, 1), (30, .istore_n 2, 1), (31, .iinc 3 (1), 3), (34, .goto (-30), 3), (37, .iload_n 2, 1), (38, .ireturn, 1)]
set_option maxRecDepth 200000 in
theorem mo_leftIn_code_ok : px_code prog_13_method_39_code mo_leftIn_code = true := by decide +kernel
noncomputable def mo_leftIn_orc : pC := px_orc [(176, fun a h => match a with
    | [.inl v0, .inl v1] => mo_has v0 v1 h
    | _ => none)]
theorem mo_leftIn_orc_ok {d : Nat} : px_Or (d + 1) (mo_leftIn_orc) := px_orc_ok (by
  refine px_o1 (fun a h q e => by
    dsimp only at e
    split at e
    · exact mo_has_ok (d := d + 0) e
    · cases e) ?_
  exact px_o0)
set_option maxRecDepth 200000 in
theorem mo_leftIn_29_ok {d : Nat} {r4 : Nat → Int32 → Int32 → Int32 → pH → pR} (hr4 : ∀ (a0 : Nat) (x1 : Int32) (x2 : Int32) (x3 : Int32) (h : pH) (q : Int32 × pH), r4 a0 x1 x2 x3 h = some q → px_G (d + 1 + 1) (pX_RX11, prog_13_method_39_code, 4, (some .int)) 4 [some (.inr (.inl a0)), some (.inl x1), some (.inl x2), some (.inl x3)] [] h q) : ∀ (a0 : Nat) (x1 : Int32) (x3 : Int32) (s0 : Int32) (s1 : Int32) (h : pH) (q : Int32 × pH), mo_leftIn_29 r4 a0 x1 x3 s0 s1 h = some q → px_G (d + 1 + 1) (pX_RX11, prog_13_method_39_code, 4, (some .int)) 29 [some (.inr (.inl a0)), some (.inl x1), none, some (.inl x3)] [.inl s0, .inl s1] h q := by
  intro a0 x1 x3 s0 s1 h q e
  exact px_blk_ok (d := d + 1) (M := (pX_RX11, prog_13_method_39_code, 4, (some .int))) (C := mo_leftIn_orc) (code := mo_leftIn_code) (ld := [4]) (kl := [(4, fun ls st h => px_if (px_fit [2, 1, 1, 1] ls && px_fits [] st) (r4 (px_gr ls 0) (px_gi ls 1) (px_gi ls 2) (px_gi ls 3) h))]) (mo_leftIn_orc_ok) pX_ok_RX11 mo_leftIn_code_ok (px_k1 (px_ko (ts := [2, 1, 1, 1]) (ss := []) fun ls st h q e => hr4 _ _ _ _ _ _ e) px_k0) 30 29 _ _ h q e
set_option maxRecDepth 200000 in
theorem mo_leftIn_4_ok {d : Nat} : ∀ (n : Nat) (a0 : Nat) (x1 : Int32) (x2 : Int32) (x3 : Int32) (h : pH) (q : Int32 × pH), mo_leftIn_4 n a0 x1 x2 x3 h = some q → px_G (d + 1 + 1) (pX_RX11, prog_13_method_39_code, 4, (some .int)) 4 [some (.inr (.inl a0)), some (.inl x1), some (.inl x2), some (.inl x3)] [] h q := by
  intro n
  induction n with
  | zero =>
    intro a0 x1 x2 x3 h q e
    cases e
  | succ n ih =>
    intro a0 x1 x2 x3 h q e
    exact px_blk_ok (d := d + 1) (M := (pX_RX11, prog_13_method_39_code, 4, (some .int))) (C := mo_leftIn_orc) (code := mo_leftIn_code) (ld := [29]) (kl := [(29, fun ls st h => px_if (px_fit [2, 1, 0, 1] ls && px_fits [1, 1] st) (mo_leftIn_29 (mo_leftIn_4 n) (px_gr ls 0) (px_gi ls 1) (px_gi ls 3) (px_si st 0) (px_si st 1) h))]) (mo_leftIn_orc_ok) pX_ok_RX11 mo_leftIn_code_ok (px_k1 (px_ko (ts := [2, 1, 0, 1]) (ss := [1, 1]) fun ls st h q e => mo_leftIn_29_ok ih _ _ _ _ _ _ _ e) px_k0) 30 4 _ _ h q e
set_option maxRecDepth 200000 in
theorem mo_leftIn_ok {d : Nat} {a0 : Nat} {x1 : Int32} {h : pH} {q : Int32 × pH} (e : mo_leftIn a0 x1 h = some q) : px_Con (d + 2) 211 [.inr (.inl a0), .inl x1] h q :=
  px_con (X := pX_RX11) (b := prog_13_method_39_code) (nL := 4) (rt := (some .int)) rfl rfl (Nat.le_of_ble_eq_true rfl) rfl (px_blk_ok (d := d + 1) (M := (pX_RX11, prog_13_method_39_code, 4, (some .int))) (C := mo_leftIn_orc) (code := mo_leftIn_code) (ld := [4]) (kl := [(4, fun ls st h => px_if (px_fit [2, 1, 1, 1] ls && px_fits [] st) (mo_leftIn_4 px_F (px_gr ls 0) (px_gi ls 1) (px_gi ls 2) (px_gi ls 3) h))]) (mo_leftIn_orc_ok) pX_ok_RX11 mo_leftIn_code_ok (px_k1 (px_ko (ts := [2, 1, 1, 1]) (ss := []) fun ls st h q e => mo_leftIn_4_ok _ _ _ _ _ _ _ e) px_k0) 30 0 _ _ _ q e)
/-! WordsUnsaidModel.unsaid([II)I -/
noncomputable def mo_unsaid (a1 : Nat) (x2 : Int32) (h : pH) : pR :=
  px_bind (mo_thingsOf a1 x2 h) fun z1 h2 =>
  px_bind (mo_saidOnes a1 h2) fun z3 h4 =>
  some (z1 &&& (z3 ^^^ (px_c (-1))), h4)
def mo_unsaid_code : pCode := [(0, .aload_n 0, 1), (1, .aload_n 1, 1), (2, .iload_n 2, 1), (3, .invokevirtual 231, 3), (6, .aload_n 0, 1), (7, .aload_n 1, 1), (8, .invokevirtual 235, 3), (11, .iconst (-1), 1), (12, .ixor, 1), (13, .iand, 1), (14, .ireturn, 1)]
set_option maxRecDepth 200000 in
theorem mo_unsaid_code_ok : px_code prog_13_method_40_code mo_unsaid_code = true := by decide +kernel
noncomputable def mo_unsaid_orc : pC := px_orc [(208, fun a h => match a with
    | [.inr (.inl 51), .inr (.inl v1), .inl v2] => mo_thingsOf v1 v2 h
    | _ => none), (210, fun a h => match a with
    | [.inr (.inl 51), .inr (.inl v1)] => mo_saidOnes v1 h
    | _ => none)]
theorem mo_unsaid_orc_ok {d : Nat} : px_Or (d + 1) (mo_unsaid_orc) := px_orc_ok (by
  refine px_o1 (fun a h q e => by
    dsimp only at e
    split at e
    · exact mo_thingsOf_ok (d := d + 0) e
    · cases e) ?_
  refine px_o1 (fun a h q e => by
    dsimp only at e
    split at e
    · exact mo_saidOnes_ok (d := d + 0) e
    · cases e) ?_
  exact px_o0)
set_option maxRecDepth 200000 in
theorem mo_unsaid_ok {d : Nat} {a1 : Nat} {x2 : Int32} {h : pH} {q : Int32 × pH} (e : mo_unsaid a1 x2 h = some q) : px_Con (d + 2) 212 [.inr (.inl 51), .inr (.inl a1), .inl x2] h q :=
  px_con (X := pX_RX11) (b := prog_13_method_40_code) (nL := 3) (rt := (some .int)) rfl rfl (Nat.le_of_ble_eq_true rfl) rfl (px_blk_ok (d := d + 1) (M := (pX_RX11, prog_13_method_40_code, 3, (some .int))) (C := mo_unsaid_orc) (code := mo_unsaid_code) (ld := []) (kl := []) (mo_unsaid_orc_ok) pX_ok_RX11 mo_unsaid_code_ok (px_k0) 16 0 _ _ _ q e)
/-! WordsUnsaidModel.person(II)I -/
noncomputable def mo_person_22 (h : pH) : pR :=
  px_bind (mo_lost h) fun z1 h2 =>
  some (z1, h2)
noncomputable def mo_person (x1 : Int32) (x2 : Int32) (h : pH) : pR :=
  let h1 := px_w h 51 14 (px_c 0)
  px_bind (mo_isPerson x1 h1) fun z2 h3 =>
  if z2 = 0 then
    mo_person_22 h3
  else
    px_bind (mo_in x2 (px_c 0) (px_c 5) h3) fun z4 h5 =>
    if z4 = 0 then
      mo_person_22 h5
    else
      if x2 = px_c 0 then
        px_if (px_ok 0 54 x1) <|
        some (h5 54 x1.toNatClampNeg, h5)
      else
      if x2 = px_c 1 then
        px_if (px_ok 0 52 x1) <|
        some (h5 52 x1.toNatClampNeg, h5)
      else
      if x2 = px_c 2 then
        px_bind (mo_thingsOf 52 x1 h5) fun z6 h7 =>
        some (z6, h7)
      else
      if x2 = px_c 3 then
        px_bind (mo_knownBy x1 h5) fun z8 h9 =>
        some (z8, h9)
      else
      if x2 = px_c 4 then
        px_bind (mo_unsaid 52 x1 h5) fun z10 h11 =>
        px_bind (mo_leftIn 52 z10 h11) fun z12 h13 =>
        some (z12, h13)
      else
        px_if (px_ok 0 52 ((px_c 6) + x1)) <|
        some (h5 52 ((px_c 6) + x1).toNatClampNeg, h5)
def mo_person_code : pCode := [(0, .aload_n 0, 1), (1, .iconst 0, 1), (2, .putfield 106, 3), (5, .aload_n 0, 1), (6, .iload_n 1, 1), (7, .invokevirtual 122, 3), (10, .ifCond .eq (12), 3), (13, .iload_n 2, 1), (14, .iconst 0, 1), (15, .iconst 5, 1), (16, .invokestatic 115, 3), (19, .ifCond .ne (8), 3), (22, .aload_n 0, 1), (23, .invokevirtual 239, 3), (26, .ireturn, 1), (27, .iload_n 2, 1), (28, .tableswitch (83) (0) (4) #[36, 43, 50, 60, 66], 36), (64, .aload_n 0, 1), (65, .getfield 20, 3), (68, .iload_n 1, 1), (69, .iaload, 1), (70, .ireturn, 1), (71, .aload_n 0, 1), (72, .getfield 9, 3), (75, .iload_n 1, 1), (76, .iaload, 1), (77, .ireturn, 1), (78, .aload_n 0, 1), (79, .aload_n 0, 1), (80, .getfield 9, 3), (83, .iload_n 1, 1), (84, .invokevirtual 231, 3), (87, .ireturn, 1), (88, .aload_n 0, 1), (89, .iload_n 1, 1), (90, .invokevirtual 242, 3), (93, .ireturn, 1), (94, .aload_n 0, 1), (95, .getfield 9, 3), (98, .aload_n 0, 1), (99, .aload_n 0, 1), (100, .getfield 9, 3), (103, .iload_n 1, 1), (104, .invokevirtual 245, 3), (107, .invokestatic 248, 3), (110, .ireturn, 1), (111, .aload_n 0, 1), (112, .getfield 9, 3), (115, .bipush (6), 2), (117, .iload_n 1, 1), (118, .iadd, 1), (119, .iaload, 1), (120, .ireturn, 1)]
set_option maxRecDepth 200000 in
theorem mo_person_code_ok : px_code prog_13_method_41_code mo_person_code = true := by decide +kernel
noncomputable def mo_person_orc : pC := px_orc [(177, fun a h => match a with
    | [.inr (.inl 51)] => mo_lost h
    | _ => none), (179, fun a h => match a with
    | [.inr (.inl 51), .inl v1] => mo_isPerson v1 h
    | _ => none), (175, fun a h => match a with
    | [.inl v0, .inl v1, .inl v2] => mo_in v0 v1 v2 h
    | _ => none), (208, fun a h => match a with
    | [.inr (.inl 51), .inr (.inl v1), .inl v2] => mo_thingsOf v1 v2 h
    | _ => none), (209, fun a h => match a with
    | [.inr (.inl 51), .inl v1] => mo_knownBy v1 h
    | _ => none), (212, fun a h => match a with
    | [.inr (.inl 51), .inr (.inl v1), .inl v2] => mo_unsaid v1 v2 h
    | _ => none), (211, fun a h => match a with
    | [.inr (.inl v0), .inl v1] => mo_leftIn v0 v1 h
    | _ => none)]
theorem mo_person_orc_ok {d : Nat} : px_Or (d + 2) (mo_person_orc) := px_orc_ok (by
  refine px_o1 (fun a h q e => by
    dsimp only at e
    split at e
    · exact mo_lost_ok (d := d + 1) e
    · cases e) ?_
  refine px_o1 (fun a h q e => by
    dsimp only at e
    split at e
    · exact mo_isPerson_ok (d := d + 0) e
    · cases e) ?_
  refine px_o1 (fun a h q e => by
    dsimp only at e
    split at e
    · exact mo_in_ok (d := d + 1) e
    · cases e) ?_
  refine px_o1 (fun a h q e => by
    dsimp only at e
    split at e
    · exact mo_thingsOf_ok (d := d + 1) e
    · cases e) ?_
  refine px_o1 (fun a h q e => by
    dsimp only at e
    split at e
    · exact mo_knownBy_ok (d := d + 0) e
    · cases e) ?_
  refine px_o1 (fun a h q e => by
    dsimp only at e
    split at e
    · exact mo_unsaid_ok (d := d + 0) e
    · cases e) ?_
  refine px_o1 (fun a h q e => by
    dsimp only at e
    split at e
    · exact mo_leftIn_ok (d := d + 0) e
    · cases e) ?_
  exact px_o0)
set_option maxRecDepth 200000 in
theorem mo_person_22_ok {d : Nat} : ∀ (h : pH) (q : Int32 × pH), mo_person_22 h = some q → px_G (d + 2 + 1) (pX_RX11, prog_13_method_41_code, 3, (some .int)) 22 [some (.inr (.inl 51)), none, none] [] h q := by
  intro h q e
  exact px_blk_ok (d := d + 2) (M := (pX_RX11, prog_13_method_41_code, 3, (some .int))) (C := mo_person_orc) (code := mo_person_code) (ld := []) (kl := []) (mo_person_orc_ok) pX_ok_RX11 mo_person_code_ok (px_k0) 58 22 _ _ h q e
set_option maxRecDepth 200000 in
theorem mo_person_ok {d : Nat} {x1 : Int32} {x2 : Int32} {h : pH} {q : Int32 × pH} (e : mo_person x1 x2 h = some q) : px_Con (d + 3) 213 [.inr (.inl 51), .inl x1, .inl x2] h q :=
  px_con (X := pX_RX11) (b := prog_13_method_41_code) (nL := 3) (rt := (some .int)) rfl rfl (Nat.le_of_ble_eq_true rfl) rfl (px_blk_ok (d := d + 2) (M := (pX_RX11, prog_13_method_41_code, 3, (some .int))) (C := mo_person_orc) (code := mo_person_code) (ld := [22]) (kl := [(22, fun ls st h => px_if (px_fit [61, 0, 0] ls && px_fits [] st) (mo_person_22 h))]) (mo_person_orc_ok) pX_ok_RX11 mo_person_code_ok (px_k1 (px_ko (ts := [61, 0, 0]) (ss := []) fun ls st h q e => mo_person_22_ok _ _ e) px_k0) 58 0 _ _ _ q e)
/-! WordsUnsaidModel.thing(II)I -/
noncomputable def mo_thing_23 (h : pH) : pR :=
  px_bind (mo_lost h) fun z1 h2 =>
  some (z1, h2)
noncomputable def mo_thing (x1 : Int32) (x2 : Int32) (h : pH) : pR :=
  let h1 := px_w h 51 14 (px_c 0)
  px_bind (mo_isThing x1 h1) fun z2 h3 =>
  if z2 = 0 then
    mo_thing_23 h3
  else
    px_bind (mo_in x2 (px_c 0) (px_c 6) h3) fun z4 h5 =>
    if z4 = 0 then
      mo_thing_23 h5
    else
      if x2 = px_c 0 then
        px_if (px_ok 0 55 x1) <|
        some (h5 55 x1.toNatClampNeg, h5)
      else
      if x2 = px_c 1 then
        px_if (px_ok 0 52 ((px_c 12) + x1)) <|
        some (h5 52 ((px_c 12) + x1).toNatClampNeg, h5)
      else
      if x2 = px_c 2 then
        px_if (px_ok 0 56 x1) <|
        some (h5 56 x1.toNatClampNeg, h5)
      else
      if x2 = px_c 3 then
        px_if (px_ok 0 52 ((px_c 32) + x1)) <|
        some (h5 52 ((px_c 32) + x1).toNatClampNeg, h5)
      else
      if x2 = px_c 4 then
        px_if (px_ok 0 57 x1) <|
        some (h5 57 x1.toNatClampNeg, h5)
      else
      if x2 = px_c 5 then
        px_if (px_ok 0 52 ((px_c 22) + x1)) <|
        some (h5 52 ((px_c 22) + x1).toNatClampNeg, h5)
      else
        px_if (px_ok 0 52 ((px_c 42) + x1)) <|
        some (h5 52 ((px_c 42) + x1).toNatClampNeg, h5)
def mo_thing_code : pCode := [(0, .aload_n 0, 1), (1, .iconst 0, 1), (2, .putfield 106, 3), (5, .aload_n 0, 1), (6, .iload_n 1, 1), (7, .invokevirtual 251, 3), (10, .ifCond .eq (13), 3), (13, .iload_n 2, 1), (14, .iconst 0, 1), (15, .bipush (6), 2), (17, .invokestatic 115, 3), (20, .ifCond .ne (8), 3), (23, .aload_n 0, 1), (24, .invokevirtual 239, 3), (27, .ireturn, 1), (28, .iload_n 2, 1), (29, .tableswitch (90) (0) (5) #[39, 46, 56, 63, 73, 80], 39), (68, .aload_n 0, 1), (69, .getfield 23, 3), (72, .iload_n 1, 1), (73, .iaload, 1), (74, .ireturn, 1), (75, .aload_n 0, 1), (76, .getfield 9, 3), (79, .bipush (12), 2), (81, .iload_n 1, 1), (82, .iadd, 1), (83, .iaload, 1), (84, .ireturn, 1), (85, .aload_n 0, 1), (86, .getfield 26, 3), (89, .iload_n 1, 1), (90, .iaload, 1), (91, .ireturn, 1), (92, .aload_n 0, 1), (93, .getfield 9, 3), (96, .bipush (32), 2), (98, .iload_n 1, 1), (99, .iadd, 1), (100, .iaload, 1), (101, .ireturn, 1), (102, .aload_n 0, 1), (103, .getfield 29, 3), (106, .iload_n 1, 1), (107, .iaload, 1), (108, .ireturn, 1), (109, .aload_n 0, 1), (110, .getfield 9, 3), (113, .bipush (22), 2), (115, .iload_n 1, 1), (116, .iadd, 1), (117, .iaload, 1), (118, .ireturn, 1), (119, .aload_n 0, 1), (120, .getfield 9, 3), (123, .bipush (42), 2), (125, .iload_n 1, 1), (126, .iadd, 1), (127, .iaload, 1), (128, .ireturn, 1)]
set_option maxRecDepth 200000 in
theorem mo_thing_code_ok : px_code prog_13_method_42_code mo_thing_code = true := by decide +kernel
noncomputable def mo_thing_orc : pC := px_orc [(177, fun a h => match a with
    | [.inr (.inl 51)] => mo_lost h
    | _ => none), (180, fun a h => match a with
    | [.inr (.inl 51), .inl v1] => mo_isThing v1 h
    | _ => none), (175, fun a h => match a with
    | [.inl v0, .inl v1, .inl v2] => mo_in v0 v1 v2 h
    | _ => none)]
theorem mo_thing_orc_ok {d : Nat} : px_Or (d + 2) (mo_thing_orc) := px_orc_ok (by
  refine px_o1 (fun a h q e => by
    dsimp only at e
    split at e
    · exact mo_lost_ok (d := d + 1) e
    · cases e) ?_
  refine px_o1 (fun a h q e => by
    dsimp only at e
    split at e
    · exact mo_isThing_ok (d := d + 0) e
    · cases e) ?_
  refine px_o1 (fun a h q e => by
    dsimp only at e
    split at e
    · exact mo_in_ok (d := d + 1) e
    · cases e) ?_
  exact px_o0)
set_option maxRecDepth 200000 in
theorem mo_thing_23_ok {d : Nat} : ∀ (h : pH) (q : Int32 × pH), mo_thing_23 h = some q → px_G (d + 2 + 1) (pX_RX11, prog_13_method_42_code, 3, (some .int)) 23 [some (.inr (.inl 51)), none, none] [] h q := by
  intro h q e
  exact px_blk_ok (d := d + 2) (M := (pX_RX11, prog_13_method_42_code, 3, (some .int))) (C := mo_thing_orc) (code := mo_thing_code) (ld := []) (kl := []) (mo_thing_orc_ok) pX_ok_RX11 mo_thing_code_ok (px_k0) 65 23 _ _ h q e
set_option maxRecDepth 200000 in
theorem mo_thing_ok {d : Nat} {x1 : Int32} {x2 : Int32} {h : pH} {q : Int32 × pH} (e : mo_thing x1 x2 h = some q) : px_Con (d + 3) 214 [.inr (.inl 51), .inl x1, .inl x2] h q :=
  px_con (X := pX_RX11) (b := prog_13_method_42_code) (nL := 3) (rt := (some .int)) rfl rfl (Nat.le_of_ble_eq_true rfl) rfl (px_blk_ok (d := d + 2) (M := (pX_RX11, prog_13_method_42_code, 3, (some .int))) (C := mo_thing_orc) (code := mo_thing_code) (ld := [23]) (kl := [(23, fun ls st h => px_if (px_fit [61, 0, 0] ls && px_fits [] st) (mo_thing_23 h))]) (mo_thing_orc_ok) pX_ok_RX11 mo_thing_code_ok (px_k1 (px_ko (ts := [61, 0, 0]) (ss := []) fun ls st h q e => mo_thing_23_ok _ _ e) px_k0) 65 0 _ _ _ q e)
/-! WordsUnsaidModel.islet(I)I -/
noncomputable def mo_islet_29 (s0 : Int32) (h : pH) : pR :=
  some (s0, h)
noncomputable def mo_islet (x1 : Int32) (h : pH) : pR :=
  let h1 := px_w h 51 14 (px_c 0)
  px_bind (mo_in x1 (px_c 0) ((h1 51 2) - (px_c 1)) h1) fun z2 h3 =>
  if z2 = 0 then
    mo_islet_29 (px_c (-1)) h3
  else
    px_if (px_ok 0 53 x1) <|
    mo_islet_29 (h3 53 x1.toNatClampNeg) h3
def mo_islet_code : pCode := [(0, .aload_n 0, 1), (1, .iconst 0, 1), (2, .putfield 106, 3), (5, .iload_n 1, 1), (6, .iconst 0, 1), (7, .aload_n 0, 1), (8, .getfield 126, 3), (11, .iconst 1, 1), (12, .isub, 1), (13, .invokestatic 115, 3), (16, .ifCond .eq (12), 3), (19, .aload_n 0, 1), (20, .getfield 17, 3), (23, .iload_n 1, 1), (24, .iaload, 1), (25, .goto (4), 3), (28, .iconst (-1), 1), (29, .ireturn, 1)]
set_option maxRecDepth 200000 in
theorem mo_islet_code_ok : px_code prog_13_method_43_code mo_islet_code = true := by decide +kernel
noncomputable def mo_islet_orc : pC := px_orc [(175, fun a h => match a with
    | [.inl v0, .inl v1, .inl v2] => mo_in v0 v1 v2 h
    | _ => none)]
theorem mo_islet_orc_ok {d : Nat} : px_Or (d + 1) (mo_islet_orc) := px_orc_ok (by
  refine px_o1 (fun a h q e => by
    dsimp only at e
    split at e
    · exact mo_in_ok (d := d + 0) e
    · cases e) ?_
  exact px_o0)
set_option maxRecDepth 200000 in
theorem mo_islet_29_ok {d : Nat} : ∀ (s0 : Int32) (h : pH) (q : Int32 × pH), mo_islet_29 s0 h = some q → px_G (d + 1 + 1) (pX_RX11, prog_13_method_43_code, 2, (some .int)) 29 [none, none] [.inl s0] h q := by
  intro s0 h q e
  exact px_blk_ok (d := d + 1) (M := (pX_RX11, prog_13_method_43_code, 2, (some .int))) (C := mo_islet_orc) (code := mo_islet_code) (ld := []) (kl := []) (mo_islet_orc_ok) pX_ok_RX11 mo_islet_code_ok (px_k0) 23 29 _ _ h q e
set_option maxRecDepth 200000 in
theorem mo_islet_ok {d : Nat} {x1 : Int32} {h : pH} {q : Int32 × pH} (e : mo_islet x1 h = some q) : px_Con (d + 2) 215 [.inr (.inl 51), .inl x1] h q :=
  px_con (X := pX_RX11) (b := prog_13_method_43_code) (nL := 2) (rt := (some .int)) rfl rfl (Nat.le_of_ble_eq_true rfl) rfl (px_blk_ok (d := d + 1) (M := (pX_RX11, prog_13_method_43_code, 2, (some .int))) (C := mo_islet_orc) (code := mo_islet_code) (ld := [29]) (kl := [(29, fun ls st h => px_if (px_fit [0, 0] ls && px_fits [1] st) (mo_islet_29 (px_si st 0) h))]) (mo_islet_orc_ok) pX_ok_RX11 mo_islet_code_ok (px_k1 (px_ko (ts := [0, 0]) (ss := [1]) fun ls st h q e => mo_islet_29_ok _ _ _ e) px_k0) 23 0 _ _ _ q e)
/-! WordsUnsaidModel.hold(II)I -/
noncomputable def mo_hold_23 (h : pH) : pR :=
  some (px_c (-1), h)
noncomputable def mo_hold (x1 : Int32) (x2 : Int32) (h : pH) : pR :=
  let h1 := px_w h 51 14 (px_c 0)
  px_bind (mo_isPerson x1 h1) fun z2 h3 =>
  if z2 = 0 then
    mo_hold_23 h3
  else
    px_bind (mo_in x2 (px_c 1) (px_c 99) h3) fun z4 h5 =>
    if z4 = 0 then
      mo_hold_23 h5
    else
      px_if (px_ok 0 54 x1) <|
      let y3_6 := h5 54 x1.toNatClampNeg
      px_if (px_ok 0 54 x1) <|
      let h7 := px_w h5 54 x1.toNatClampNeg x2
      some (y3_6, h7)
def mo_hold_code : pCode := [(0, .aload_n 0, 1), (1, .iconst 0, 1), (2, .putfield 106, 3), (5, .aload_n 0, 1), (6, .iload_n 1, 1), (7, .invokevirtual 122, 3), (10, .ifCond .eq (13), 3), (13, .iload_n 2, 1), (14, .iconst 1, 1), (15, .bipush (99), 2), (17, .invokestatic 115, 3), (20, .ifCond .ne (5), 3), (23, .iconst (-1), 1), (24, .ireturn, 1), (25, .aload_n 0, 1), (26, .getfield 20, 3), (29, .iload_n 1, 1), (30, .iaload, 1), (31, .istore_n 3, 1), (32, .aload_n 0, 1), (33, .getfield 20, 3), (36, .iload_n 1, 1), (37, .iload_n 2, 1), (38, .iastore, 1), (39, .iload_n 3, 1), (40, .ireturn, 1)]
set_option maxRecDepth 200000 in
theorem mo_hold_code_ok : px_code prog_13_method_44_code mo_hold_code = true := by decide +kernel
noncomputable def mo_hold_orc : pC := px_orc [(179, fun a h => match a with
    | [.inr (.inl 51), .inl v1] => mo_isPerson v1 h
    | _ => none), (175, fun a h => match a with
    | [.inl v0, .inl v1, .inl v2] => mo_in v0 v1 v2 h
    | _ => none)]
theorem mo_hold_orc_ok {d : Nat} : px_Or (d + 2) (mo_hold_orc) := px_orc_ok (by
  refine px_o1 (fun a h q e => by
    dsimp only at e
    split at e
    · exact mo_isPerson_ok (d := d + 0) e
    · cases e) ?_
  refine px_o1 (fun a h q e => by
    dsimp only at e
    split at e
    · exact mo_in_ok (d := d + 1) e
    · cases e) ?_
  exact px_o0)
set_option maxRecDepth 200000 in
theorem mo_hold_23_ok {d : Nat} : ∀ (h : pH) (q : Int32 × pH), mo_hold_23 h = some q → px_G (d + 2 + 1) (pX_RX11, prog_13_method_44_code, 4, (some .int)) 23 [none, none, none, none] [] h q := by
  intro h q e
  exact px_blk_ok (d := d + 2) (M := (pX_RX11, prog_13_method_44_code, 4, (some .int))) (C := mo_hold_orc) (code := mo_hold_code) (ld := []) (kl := []) (mo_hold_orc_ok) pX_ok_RX11 mo_hold_code_ok (px_k0) 31 23 _ _ h q e
set_option maxRecDepth 200000 in
theorem mo_hold_ok {d : Nat} {x1 : Int32} {x2 : Int32} {h : pH} {q : Int32 × pH} (e : mo_hold x1 x2 h = some q) : px_Con (d + 3) 216 [.inr (.inl 51), .inl x1, .inl x2] h q :=
  px_con (X := pX_RX11) (b := prog_13_method_44_code) (nL := 4) (rt := (some .int)) rfl rfl (Nat.le_of_ble_eq_true rfl) rfl (px_blk_ok (d := d + 2) (M := (pX_RX11, prog_13_method_44_code, 4, (some .int))) (C := mo_hold_orc) (code := mo_hold_code) (ld := [23]) (kl := [(23, fun ls st h => px_if (px_fit [0, 0, 0, 0] ls && px_fits [] st) (mo_hold_23 h))]) (mo_hold_orc_ok) pX_ok_RX11 mo_hold_code_ok (px_k1 (px_ko (ts := [0, 0, 0, 0]) (ss := []) fun ls st h q e => mo_hold_23_ok _ _ e) px_k0) 31 0 _ _ _ q e)
/-! WordsUnsaidModel.sheet(IIII)I -/
noncomputable def mo_sheet_20 (h : pH) : pR :=
  some (px_c (-1), h)
noncomputable def mo_sheet_147 (s0 : Int32) (h : pH) : pR :=
  some (s0, h)
noncomputable def mo_sheet_109 (r43 : Int32 → Int32 → Int32 → Int32 → Int32 → Int32 → pH → pR) (x1 : Int32) (x2 : Int32) (x4 : Int32) (x5 : Int32) (x6 : Int32) (x7 : Int32) (s0 : Int32) (s1 : Int32) (h : pH) : pR :=
  px_if (px_ok 0 56 s1) <|
  let h1 := px_w h 56 s1.toNatClampNeg s0
  px_if (px_ok 0 56 x7) <|
  let y5_2 := x5 + (h1 56 x7.toNatClampNeg)
  let y6_3 := x6 + x4
  r43 x1 x2 x4 y5_2 y6_3 (x7 + px_c 1) h1
noncomputable def mo_sheet_94 (r43 : Int32 → Int32 → Int32 → Int32 → Int32 → Int32 → pH → pR) (x1 : Int32) (x2 : Int32) (x4 : Int32) (x5 : Int32) (x6 : Int32) (x7 : Int32) (s0 : Int32) (h : pH) : pR :=
  mo_sheet_109 r43 x1 x2 x4 x5 x6 x7 (px_c 0) s0 h
noncomputable def mo_sheet_75 (r43 : Int32 → Int32 → Int32 → Int32 → Int32 → Int32 → pH → pR) (x1 : Int32) (x2 : Int32) (x4 : Int32) (x5 : Int32) (x6 : Int32) (x7 : Int32) (s0 : Int32) (h : pH) : pR :=
  if x1 = (px_c 3) then
    mo_sheet_94 r43 x1 x2 x4 x5 x6 x7 x7 h
  else
    if x7 < x2 then
      mo_sheet_109 r43 x1 x2 x4 x5 x6 x7 (px_max (px_c 0) (px_min (px_c 9) s0)) x7 h
    else
      mo_sheet_94 r43 x1 x2 x4 x5 x6 x7 x7 h
noncomputable def mo_sheet_43 : Nat → Int32 → Int32 → Int32 → Int32 → Int32 → Int32 → pH → pR
  | 0, _, _, _, _, _, _, _ => none
  | n + 1, x1, x2, x4, x5, x6, x7, h =>
    if (h 51 6) ≤ x7 then
      if x1 = (px_c 3) then
        mo_sheet_147 (px_c (-3)) h
      else
        mo_sheet_147 x5 h
    else
      if x1 = 0 then
        mo_sheet_75 (mo_sheet_43 n) x1 x2 x4 x5 x6 x7 (px_i2b x6) h
      else
        if x1 = (px_c 1) then
          mo_sheet_75 (mo_sheet_43 n) x1 x2 x4 x5 x6 x7 (px_i2s x6) h
        else
          mo_sheet_75 (mo_sheet_43 n) x1 x2 x4 x5 x6 x7 x6 h
noncomputable def mo_sheet_34 (x1 : Int32) (x2 : Int32) (x3 : Int32) (x4 : Int32) (h : pH) : pR :=
  mo_sheet_43 px_F x1 x2 x4 (px_c 0) x3 (px_c 0) h
noncomputable def mo_sheet (x1 : Int32) (x2 : Int32) (x3 : Int32) (x4 : Int32) (h : pH) : pR :=
  let h1 := px_w h 51 14 (px_c 0)
  px_bind (mo_in x1 (px_c 0) (px_c 3) h1) fun z2 h3 =>
  if z2 = 0 then
    mo_sheet_20 h3
  else
    if x2 ≤ (px_c 10) then
      if (px_c 3) ≤ x1 then
        mo_sheet_34 x1 x2 x3 x4 h3
      else
        if 0 ≤ x2 then
          mo_sheet_34 x1 x2 x3 x4 h3
        else
          some (px_c (-2), h3)
    else
      mo_sheet_20 h3
def mo_sheet_code : pCode := [(0, .aload_n 0, 1), (1, .iconst 0, 1), (2, .putfield 106, 3), (5, .iload_n 1, 1), (6, .iconst 0, 1), (7, .iconst 3, 1), (8, .invokestatic 115, 3), (11, .ifCond .eq (9), 3), (14, .iload_n 2, 1), (15, .bipush (10), 2), (17, .if_icmp .le (5), 3), (20, .iconst (-1), 1), (21, .ireturn, 1), (22, .iload_n 1, 1), (23, .iconst 3, 1), (24, .if_icmp .ge (10), 3), (27, .iload_n 2, 1), (28, .ifCond .ge (6), 3), (31, .bipush (-2), 2), (33, .ireturn, 1), (34, .iconst 0, 1), (35, .istore 5, 2), (37, .iload_n 3, 1), (38, .istore 6, 2), (40, .iconst 0, 1), (41, .istore 7, 2), (43, .iload 7, 2), (45, .aload_n 0, 1), (46, .getfield 119, 3), (49, .if_icmp .ge (86), 3), (52, .iload_n 1, 1), (53, .ifCond .ne (9), 3), (56, .iload 6, 2), (58, .i2b, 1), (59, .goto (16), 3), (62, .iload_n 1, 1), (63, .iconst 1, 1), (64, .if_icmp .ne (9), 3), (67, .iload 6, 2), (69, .i2s, 1), (70, .goto (5), 3), (73, .iload 6, 2), (75, .istore 8, 2), (77, .aload_n 0, 1), (78, .getfield 26, 3), (81, .iload 7, 2), (83, .iload_n 1, 1), (84, .iconst 3, 1), (85, .if_icmp .eq (9), 3), (88, .iload 7, 2), (90, .iload_n 2, 1), (91, .if_icmp .lt (7), 3), (94, .iconst 0, 1), (95, .goto (14), 3), (98, .iconst 0, 1), (99, .bipush (9), 2), (101, .iload 8, 2), (103, .invokestatic 254, 3), (106, .invokestatic 259, 3), (109, .iastore, 1), (110, .iload 5, 2), (112, .aload_n 0, 1), (113, .getfield 26, 3), (116, .iload 7, 2), (118, .iaload, 1), (119, .iadd, 1), (120, .istore 5, 2), (122, .iload 6, 2), (124, .iload 4, 2), (126, .iadd, 1), (127, .istore 6, 2), (129, .iinc 7 (1), 3), (132, .goto (-89), 3), (135, .iload_n 1, 1), (136, .iconst 3, 1), (137, .if_icmp .ne (8), 3), (140, .bipush (-3), 2), (142, .goto (5), 3), (145, .iload 5, 2), (147, .ireturn, 1)]
set_option maxRecDepth 200000 in
theorem mo_sheet_code_ok : px_code prog_13_method_45_code mo_sheet_code = true := by decide +kernel
noncomputable def mo_sheet_orc : pC := px_orc [(175, fun a h => match a with
    | [.inl v0, .inl v1, .inl v2] => mo_in v0 v1 v2 h
    | _ => none)]
theorem mo_sheet_orc_ok {d : Nat} : px_Or (d + 1) (mo_sheet_orc) := px_orc_ok (by
  refine px_o1 (fun a h q e => by
    dsimp only at e
    split at e
    · exact mo_in_ok (d := d + 0) e
    · cases e) ?_
  exact px_o0)
set_option maxRecDepth 200000 in
theorem mo_sheet_20_ok {d : Nat} : ∀ (h : pH) (q : Int32 × pH), mo_sheet_20 h = some q → px_G (d + 1 + 1) (pX_RX11, prog_13_method_45_code, 9, (some .int)) 20 [none, none, none, none, none, none, none, none, none] [] h q := by
  intro h q e
  exact px_blk_ok (d := d + 1) (M := (pX_RX11, prog_13_method_45_code, 9, (some .int))) (C := mo_sheet_orc) (code := mo_sheet_code) (ld := []) (kl := []) (mo_sheet_orc_ok) pX_ok_RX11 mo_sheet_code_ok (px_k0) 85 20 _ _ h q e
set_option maxRecDepth 200000 in
theorem mo_sheet_147_ok {d : Nat} : ∀ (s0 : Int32) (h : pH) (q : Int32 × pH), mo_sheet_147 s0 h = some q → px_G (d + 1 + 1) (pX_RX11, prog_13_method_45_code, 9, (some .int)) 147 [none, none, none, none, none, none, none, none, none] [.inl s0] h q := by
  intro s0 h q e
  exact px_blk_ok (d := d + 1) (M := (pX_RX11, prog_13_method_45_code, 9, (some .int))) (C := mo_sheet_orc) (code := mo_sheet_code) (ld := []) (kl := []) (mo_sheet_orc_ok) pX_ok_RX11 mo_sheet_code_ok (px_k0) 85 147 _ _ h q e
set_option maxRecDepth 200000 in
theorem mo_sheet_109_ok {d : Nat} {r43 : Int32 → Int32 → Int32 → Int32 → Int32 → Int32 → pH → pR} (hr43 : ∀ (x1 : Int32) (x2 : Int32) (x4 : Int32) (x5 : Int32) (x6 : Int32) (x7 : Int32) (h : pH) (q : Int32 × pH), r43 x1 x2 x4 x5 x6 x7 h = some q → px_G (d + 1 + 1) (pX_RX11, prog_13_method_45_code, 9, (some .int)) 43 [some (.inr (.inl 51)), some (.inl x1), some (.inl x2), none, some (.inl x4), some (.inl x5), some (.inl x6), some (.inl x7), none] [] h q) : ∀ (x1 : Int32) (x2 : Int32) (x4 : Int32) (x5 : Int32) (x6 : Int32) (x7 : Int32) (s0 : Int32) (s1 : Int32) (h : pH) (q : Int32 × pH), mo_sheet_109 r43 x1 x2 x4 x5 x6 x7 s0 s1 h = some q → px_G (d + 1 + 1) (pX_RX11, prog_13_method_45_code, 9, (some .int)) 109 [some (.inr (.inl 51)), some (.inl x1), some (.inl x2), none, some (.inl x4), some (.inl x5), some (.inl x6), some (.inl x7), none] [.inl s0, .inl s1, .inr (.inl 56)] h q := by
  intro x1 x2 x4 x5 x6 x7 s0 s1 h q e
  exact px_blk_ok (d := d + 1) (M := (pX_RX11, prog_13_method_45_code, 9, (some .int))) (C := mo_sheet_orc) (code := mo_sheet_code) (ld := [43]) (kl := [(43, fun ls st h => px_if (px_fit [61, 1, 1, 0, 1, 1, 1, 1, 0] ls && px_fits [] st) (r43 (px_gi ls 1) (px_gi ls 2) (px_gi ls 4) (px_gi ls 5) (px_gi ls 6) (px_gi ls 7) h))]) (mo_sheet_orc_ok) pX_ok_RX11 mo_sheet_code_ok (px_k1 (px_ko (ts := [61, 1, 1, 0, 1, 1, 1, 1, 0]) (ss := []) fun ls st h q e => hr43 _ _ _ _ _ _ _ _ e) px_k0) 85 109 _ _ h q e
set_option maxRecDepth 200000 in
theorem mo_sheet_94_ok {d : Nat} {r43 : Int32 → Int32 → Int32 → Int32 → Int32 → Int32 → pH → pR} (hr43 : ∀ (x1 : Int32) (x2 : Int32) (x4 : Int32) (x5 : Int32) (x6 : Int32) (x7 : Int32) (h : pH) (q : Int32 × pH), r43 x1 x2 x4 x5 x6 x7 h = some q → px_G (d + 1 + 1) (pX_RX11, prog_13_method_45_code, 9, (some .int)) 43 [some (.inr (.inl 51)), some (.inl x1), some (.inl x2), none, some (.inl x4), some (.inl x5), some (.inl x6), some (.inl x7), none] [] h q) : ∀ (x1 : Int32) (x2 : Int32) (x4 : Int32) (x5 : Int32) (x6 : Int32) (x7 : Int32) (s0 : Int32) (h : pH) (q : Int32 × pH), mo_sheet_94 r43 x1 x2 x4 x5 x6 x7 s0 h = some q → px_G (d + 1 + 1) (pX_RX11, prog_13_method_45_code, 9, (some .int)) 94 [some (.inr (.inl 51)), some (.inl x1), some (.inl x2), none, some (.inl x4), some (.inl x5), some (.inl x6), some (.inl x7), none] [.inl s0, .inr (.inl 56)] h q := by
  intro x1 x2 x4 x5 x6 x7 s0 h q e
  exact px_blk_ok (d := d + 1) (M := (pX_RX11, prog_13_method_45_code, 9, (some .int))) (C := mo_sheet_orc) (code := mo_sheet_code) (ld := [109]) (kl := [(109, fun ls st h => px_if (px_fit [61, 1, 1, 0, 1, 1, 1, 1, 0] ls && px_fits [1, 1, 66] st) (mo_sheet_109 r43 (px_gi ls 1) (px_gi ls 2) (px_gi ls 4) (px_gi ls 5) (px_gi ls 6) (px_gi ls 7) (px_si st 0) (px_si st 1) h))]) (mo_sheet_orc_ok) pX_ok_RX11 mo_sheet_code_ok (px_k1 (px_ko (ts := [61, 1, 1, 0, 1, 1, 1, 1, 0]) (ss := [1, 1, 66]) fun ls st h q e => mo_sheet_109_ok hr43 _ _ _ _ _ _ _ _ _ _ e) px_k0) 85 94 _ _ h q e
set_option maxRecDepth 200000 in
theorem mo_sheet_75_ok {d : Nat} {r43 : Int32 → Int32 → Int32 → Int32 → Int32 → Int32 → pH → pR} (hr43 : ∀ (x1 : Int32) (x2 : Int32) (x4 : Int32) (x5 : Int32) (x6 : Int32) (x7 : Int32) (h : pH) (q : Int32 × pH), r43 x1 x2 x4 x5 x6 x7 h = some q → px_G (d + 1 + 1) (pX_RX11, prog_13_method_45_code, 9, (some .int)) 43 [some (.inr (.inl 51)), some (.inl x1), some (.inl x2), none, some (.inl x4), some (.inl x5), some (.inl x6), some (.inl x7), none] [] h q) : ∀ (x1 : Int32) (x2 : Int32) (x4 : Int32) (x5 : Int32) (x6 : Int32) (x7 : Int32) (s0 : Int32) (h : pH) (q : Int32 × pH), mo_sheet_75 r43 x1 x2 x4 x5 x6 x7 s0 h = some q → px_G (d + 1 + 1) (pX_RX11, prog_13_method_45_code, 9, (some .int)) 75 [some (.inr (.inl 51)), some (.inl x1), some (.inl x2), none, some (.inl x4), some (.inl x5), some (.inl x6), some (.inl x7), none] [.inl s0] h q := by
  intro x1 x2 x4 x5 x6 x7 s0 h q e
  exact px_blk_ok (d := d + 1) (M := (pX_RX11, prog_13_method_45_code, 9, (some .int))) (C := mo_sheet_orc) (code := mo_sheet_code) (ld := [94, 109]) (kl := [(94, fun ls st h => px_if (px_fit [61, 1, 1, 0, 1, 1, 1, 1, 0] ls && px_fits [1, 66] st) (mo_sheet_94 r43 (px_gi ls 1) (px_gi ls 2) (px_gi ls 4) (px_gi ls 5) (px_gi ls 6) (px_gi ls 7) (px_si st 0) h)), (109, fun ls st h => px_if (px_fit [61, 1, 1, 0, 1, 1, 1, 1, 0] ls && px_fits [1, 1, 66] st) (mo_sheet_109 r43 (px_gi ls 1) (px_gi ls 2) (px_gi ls 4) (px_gi ls 5) (px_gi ls 6) (px_gi ls 7) (px_si st 0) (px_si st 1) h))]) (mo_sheet_orc_ok) pX_ok_RX11 mo_sheet_code_ok (px_k1 (px_ko (ts := [61, 1, 1, 0, 1, 1, 1, 1, 0]) (ss := [1, 66]) fun ls st h q e => mo_sheet_94_ok hr43 _ _ _ _ _ _ _ _ _ e) (px_k1 (px_ko (ts := [61, 1, 1, 0, 1, 1, 1, 1, 0]) (ss := [1, 1, 66]) fun ls st h q e => mo_sheet_109_ok hr43 _ _ _ _ _ _ _ _ _ _ e) px_k0)) 85 75 _ _ h q e
set_option maxRecDepth 200000 in
theorem mo_sheet_43_ok {d : Nat} : ∀ (n : Nat) (x1 : Int32) (x2 : Int32) (x4 : Int32) (x5 : Int32) (x6 : Int32) (x7 : Int32) (h : pH) (q : Int32 × pH), mo_sheet_43 n x1 x2 x4 x5 x6 x7 h = some q → px_G (d + 1 + 1) (pX_RX11, prog_13_method_45_code, 9, (some .int)) 43 [some (.inr (.inl 51)), some (.inl x1), some (.inl x2), none, some (.inl x4), some (.inl x5), some (.inl x6), some (.inl x7), none] [] h q := by
  intro n
  induction n with
  | zero =>
    intro x1 x2 x4 x5 x6 x7 h q e
    cases e
  | succ n ih =>
    intro x1 x2 x4 x5 x6 x7 h q e
    exact px_blk_ok (d := d + 1) (M := (pX_RX11, prog_13_method_45_code, 9, (some .int))) (C := mo_sheet_orc) (code := mo_sheet_code) (ld := [75, 147]) (kl := [(75, fun ls st h => px_if (px_fit [61, 1, 1, 0, 1, 1, 1, 1, 0] ls && px_fits [1] st) (mo_sheet_75 (mo_sheet_43 n) (px_gi ls 1) (px_gi ls 2) (px_gi ls 4) (px_gi ls 5) (px_gi ls 6) (px_gi ls 7) (px_si st 0) h)), (147, fun ls st h => px_if (px_fit [0, 0, 0, 0, 0, 0, 0, 0, 0] ls && px_fits [1] st) (mo_sheet_147 (px_si st 0) h))]) (mo_sheet_orc_ok) pX_ok_RX11 mo_sheet_code_ok (px_k1 (px_ko (ts := [61, 1, 1, 0, 1, 1, 1, 1, 0]) (ss := [1]) fun ls st h q e => mo_sheet_75_ok ih _ _ _ _ _ _ _ _ _ e) (px_k1 (px_ko (ts := [0, 0, 0, 0, 0, 0, 0, 0, 0]) (ss := [1]) fun ls st h q e => mo_sheet_147_ok _ _ _ e) px_k0)) 85 43 _ _ h q e
set_option maxRecDepth 200000 in
theorem mo_sheet_34_ok {d : Nat} : ∀ (x1 : Int32) (x2 : Int32) (x3 : Int32) (x4 : Int32) (h : pH) (q : Int32 × pH), mo_sheet_34 x1 x2 x3 x4 h = some q → px_G (d + 1 + 1) (pX_RX11, prog_13_method_45_code, 9, (some .int)) 34 [some (.inr (.inl 51)), some (.inl x1), some (.inl x2), some (.inl x3), some (.inl x4), none, none, none, none] [] h q := by
  intro x1 x2 x3 x4 h q e
  exact px_blk_ok (d := d + 1) (M := (pX_RX11, prog_13_method_45_code, 9, (some .int))) (C := mo_sheet_orc) (code := mo_sheet_code) (ld := [43]) (kl := [(43, fun ls st h => px_if (px_fit [61, 1, 1, 0, 1, 1, 1, 1, 0] ls && px_fits [] st) (mo_sheet_43 px_F (px_gi ls 1) (px_gi ls 2) (px_gi ls 4) (px_gi ls 5) (px_gi ls 6) (px_gi ls 7) h))]) (mo_sheet_orc_ok) pX_ok_RX11 mo_sheet_code_ok (px_k1 (px_ko (ts := [61, 1, 1, 0, 1, 1, 1, 1, 0]) (ss := []) fun ls st h q e => mo_sheet_43_ok _ _ _ _ _ _ _ _ _ e) px_k0) 85 34 _ _ h q e
set_option maxRecDepth 200000 in
theorem mo_sheet_ok {d : Nat} {x1 : Int32} {x2 : Int32} {x3 : Int32} {x4 : Int32} {h : pH} {q : Int32 × pH} (e : mo_sheet x1 x2 x3 x4 h = some q) : px_Con (d + 2) 217 [.inr (.inl 51), .inl x1, .inl x2, .inl x3, .inl x4] h q :=
  px_con (X := pX_RX11) (b := prog_13_method_45_code) (nL := 9) (rt := (some .int)) rfl rfl (Nat.le_of_ble_eq_true rfl) rfl (px_blk_ok (d := d + 1) (M := (pX_RX11, prog_13_method_45_code, 9, (some .int))) (C := mo_sheet_orc) (code := mo_sheet_code) (ld := [34, 20]) (kl := [(34, fun ls st h => px_if (px_fit [61, 1, 1, 1, 1, 0, 0, 0, 0] ls && px_fits [] st) (mo_sheet_34 (px_gi ls 1) (px_gi ls 2) (px_gi ls 3) (px_gi ls 4) h)), (20, fun ls st h => px_if (px_fit [0, 0, 0, 0, 0, 0, 0, 0, 0] ls && px_fits [] st) (mo_sheet_20 h))]) (mo_sheet_orc_ok) pX_ok_RX11 mo_sheet_code_ok (px_k1 (px_ko (ts := [61, 1, 1, 1, 1, 0, 0, 0, 0]) (ss := []) fun ls st h q e => mo_sheet_34_ok _ _ _ _ _ _ e) (px_k1 (px_ko (ts := [0, 0, 0, 0, 0, 0, 0, 0, 0]) (ss := []) fun ls st h q e => mo_sheet_20_ok _ _ e) px_k0)) 85 0 _ _ _ q e)
/-! WordsUnsaidModel.distance(II)I -/
noncomputable def mo_distance (x1 : Int32) (x2 : Int32) (h : pH) : pR :=
  px_bind (mo_yardOf x1 h) fun z1 h2 =>
  px_bind (mo_yardOf x2 h2) fun z3 h4 =>
  some (px_abs (z1 - z3), h4)
def mo_distance_code : pCode := [(0, .aload_n 0, 1), (1, .iload_n 1, 1), (2, .invokevirtual 262, 3), (5, .aload_n 0, 1), (6, .iload_n 2, 1), (7, .invokevirtual 262, 3), (10, .isub, 1), (11, .invokestatic 265, 3), (14, .ireturn, 1)]
set_option maxRecDepth 200000 in
theorem mo_distance_code_ok : px_code prog_13_method_46_code mo_distance_code = true := by decide +kernel
noncomputable def mo_distance_orc : pC := px_orc [(184, fun a h => match a with
    | [.inr (.inl 51), .inl v1] => mo_yardOf v1 h
    | _ => none)]
theorem mo_distance_orc_ok {d : Nat} : px_Or (d + 1) (mo_distance_orc) := px_orc_ok (by
  refine px_o1 (fun a h q e => by
    dsimp only at e
    split at e
    · exact mo_yardOf_ok (d := d + 0) e
    · cases e) ?_
  exact px_o0)
set_option maxRecDepth 200000 in
theorem mo_distance_ok {d : Nat} {x1 : Int32} {x2 : Int32} {h : pH} {q : Int32 × pH} (e : mo_distance x1 x2 h = some q) : px_Con (d + 2) 218 [.inr (.inl 51), .inl x1, .inl x2] h q :=
  px_con (X := pX_RX11) (b := prog_13_method_46_code) (nL := 3) (rt := (some .int)) rfl rfl (Nat.le_of_ble_eq_true rfl) rfl (px_blk_ok (d := d + 1) (M := (pX_RX11, prog_13_method_46_code, 3, (some .int))) (C := mo_distance_orc) (code := mo_distance_code) (ld := []) (kl := []) (mo_distance_orc_ok) pX_ok_RX11 mo_distance_code_ok (px_k0) 14 0 _ _ _ q e)
/-! WordsUnsaidModel.stranded(II)I -/
noncomputable def mo_stranded_97 (r17 : Int32 → Int32 → Int32 → Int32 → Int32 → pH → pR) (x2 : Int32) (x3 : Int32) (x4 : Int32) (x5 : Int32) (x6 : Int32) (h : pH) : pR :=
  r17 x2 x3 x4 x5 (x6 + px_c 1) h
noncomputable def mo_stranded_52 (r17 : Int32 → Int32 → Int32 → Int32 → Int32 → pH → pR) (x2 : Int32) (x3 : Int32) (x4 : Int32) (x5 : Int32) (x6 : Int32) (s0 : Int32) (h : pH) : pR :=
  px_bind (mo_in s0 (px_c 1) (h 51 31) h) fun z1 h2 =>
  if z1 = 0 then
    mo_stranded_97 r17 x2 x3 x4 x5 x6 h2
  else
    if ((h2 51 31) - s0) < x5 then
      let y5_3 := (h2 51 31) - s0
      let y4_4 := (px_c 2) + x6
      mo_stranded_97 r17 x2 x3 y4_4 y5_3 x6 h2
    else
      mo_stranded_97 r17 x2 x3 x4 x5 x6 h2
noncomputable def mo_stranded_17 : Nat → Int32 → Int32 → Int32 → Int32 → Int32 → pH → pR
  | 0, _, _, _, _, _, _ => none
  | n + 1, x2, x3, x4, x5, x6, h =>
    if (h 51 2) ≤ x6 then
      some (x4, h)
    else
      if x2 = (px_c 1) then
        px_if (px_ok 0 53 x6) <|
        mo_stranded_52 (mo_stranded_17 n) x2 x3 x4 x5 x6 ((h 53 x6.toNatClampNeg) - x3) h
      else
        px_if (px_ok 0 53 x6) <|
        mo_stranded_52 (mo_stranded_17 n) x2 x3 x4 x5 x6 (x3 - (h 53 x6.toNatClampNeg)) h
noncomputable def mo_stranded (x1 : Int32) (x2 : Int32) (h : pH) : pR :=
  px_bind (mo_yardOf x1 h) fun z1 h2 =>
  mo_stranded_17 px_F x2 z1 x1 1000000 (px_c 0) h2
def mo_stranded_code : pCode := [(0, .aload_n 0, 1), (1, .iload_n 1, 1), (2, .invokevirtual 262, 3), (5, .istore_n 3, 1), (6, .iload_n 1, 1), (7, .istore 4, 2), (9, .ldc_w 291, 3), (12, .istore 5, 2), (14, .iconst 0, 1), (15, .istore 6, 2), (17, .iload 6, 2), (19, .aload_n 0, 1), (20, .getfield 126, 3), (23, .if_icmp .ge (80), 3), (26, .iload_n 2, 1), (27, .iconst 1, 1), (28, .if_icmp .ne (15), 3), (31, .aload_n 0, 1), (32, .getfield 17, 3), (35, .iload 6, 2), (37, .iaload, 1), (38, .iload_n 3, 1), (39, .isub, 1), (40, .goto (12), 3), (43, .iload_n 3, 1), (44, .aload_n 0, 1), (45, .getfield 17, 3), (48, .iload 6, 2), (50, .iaload, 1), (51, .isub, 1), (52, .istore 7, 2), (54, .iload 7, 2), (56, .iconst 1, 1), (57, .aload_n 0, 1), (58, .getfield 271, 3), (61, .invokestatic 115, 3), (64, .ifCond .eq (33), 3), (67, .aload_n 0, 1), (68, .getfield 271, 3), (71, .iload 7, 2), (73, .isub, 1), (74, .iload 5, 2), (76, .if_icmp .lt (6), 3), (79, .goto (18), 3), (82, .aload_n 0, 1), (83, .getfield 271, 3), (86, .iload 7, 2), (88, .isub, 1), (89, .istore 5, 2), (91, .iconst 2, 1), (92, .iload 6, 2), (94, .iadd, 1), (95, .istore 4, 2), (97, .iinc 6 (1), 3), (100, .goto (-83), 3), (103, .iload 4, 2), (105, .ireturn, 1)]
set_option maxRecDepth 200000 in
theorem mo_stranded_code_ok : px_code prog_13_method_49_code mo_stranded_code = true := by decide +kernel
noncomputable def mo_stranded_orc : pC := px_orc [(175, fun a h => match a with
    | [.inl v0, .inl v1, .inl v2] => mo_in v0 v1 v2 h
    | _ => none), (184, fun a h => match a with
    | [.inr (.inl 51), .inl v1] => mo_yardOf v1 h
    | _ => none)]
theorem mo_stranded_orc_ok {d : Nat} : px_Or (d + 1) (mo_stranded_orc) := px_orc_ok (by
  refine px_o1 (fun a h q e => by
    dsimp only at e
    split at e
    · exact mo_in_ok (d := d + 0) e
    · cases e) ?_
  refine px_o1 (fun a h q e => by
    dsimp only at e
    split at e
    · exact mo_yardOf_ok (d := d + 0) e
    · cases e) ?_
  exact px_o0)
set_option maxRecDepth 200000 in
theorem mo_stranded_97_ok {d : Nat} {r17 : Int32 → Int32 → Int32 → Int32 → Int32 → pH → pR} (hr17 : ∀ (x2 : Int32) (x3 : Int32) (x4 : Int32) (x5 : Int32) (x6 : Int32) (h : pH) (q : Int32 × pH), r17 x2 x3 x4 x5 x6 h = some q → px_G (d + 1 + 1) (pX_RX11, prog_13_method_49_code, 8, (some .int)) 17 [some (.inr (.inl 51)), none, some (.inl x2), some (.inl x3), some (.inl x4), some (.inl x5), some (.inl x6), none] [] h q) : ∀ (x2 : Int32) (x3 : Int32) (x4 : Int32) (x5 : Int32) (x6 : Int32) (h : pH) (q : Int32 × pH), mo_stranded_97 r17 x2 x3 x4 x5 x6 h = some q → px_G (d + 1 + 1) (pX_RX11, prog_13_method_49_code, 8, (some .int)) 97 [some (.inr (.inl 51)), none, some (.inl x2), some (.inl x3), some (.inl x4), some (.inl x5), some (.inl x6), none] [] h q := by
  intro x2 x3 x4 x5 x6 h q e
  exact px_blk_ok (d := d + 1) (M := (pX_RX11, prog_13_method_49_code, 8, (some .int))) (C := mo_stranded_orc) (code := mo_stranded_code) (ld := [17]) (kl := [(17, fun ls st h => px_if (px_fit [61, 0, 1, 1, 1, 1, 1, 0] ls && px_fits [] st) (r17 (px_gi ls 2) (px_gi ls 3) (px_gi ls 4) (px_gi ls 5) (px_gi ls 6) h))]) (mo_stranded_orc_ok) pX_ok_RX11 mo_stranded_code_ok (px_k1 (px_ko (ts := [61, 0, 1, 1, 1, 1, 1, 0]) (ss := []) fun ls st h q e => hr17 _ _ _ _ _ _ _ e) px_k0) 62 97 _ _ h q e
set_option maxRecDepth 200000 in
theorem mo_stranded_52_ok {d : Nat} {r17 : Int32 → Int32 → Int32 → Int32 → Int32 → pH → pR} (hr17 : ∀ (x2 : Int32) (x3 : Int32) (x4 : Int32) (x5 : Int32) (x6 : Int32) (h : pH) (q : Int32 × pH), r17 x2 x3 x4 x5 x6 h = some q → px_G (d + 1 + 1) (pX_RX11, prog_13_method_49_code, 8, (some .int)) 17 [some (.inr (.inl 51)), none, some (.inl x2), some (.inl x3), some (.inl x4), some (.inl x5), some (.inl x6), none] [] h q) : ∀ (x2 : Int32) (x3 : Int32) (x4 : Int32) (x5 : Int32) (x6 : Int32) (s0 : Int32) (h : pH) (q : Int32 × pH), mo_stranded_52 r17 x2 x3 x4 x5 x6 s0 h = some q → px_G (d + 1 + 1) (pX_RX11, prog_13_method_49_code, 8, (some .int)) 52 [some (.inr (.inl 51)), none, some (.inl x2), some (.inl x3), some (.inl x4), some (.inl x5), some (.inl x6), none] [.inl s0] h q := by
  intro x2 x3 x4 x5 x6 s0 h q e
  exact px_blk_ok (d := d + 1) (M := (pX_RX11, prog_13_method_49_code, 8, (some .int))) (C := mo_stranded_orc) (code := mo_stranded_code) (ld := [97]) (kl := [(97, fun ls st h => px_if (px_fit [61, 0, 1, 1, 1, 1, 1, 0] ls && px_fits [] st) (mo_stranded_97 r17 (px_gi ls 2) (px_gi ls 3) (px_gi ls 4) (px_gi ls 5) (px_gi ls 6) h))]) (mo_stranded_orc_ok) pX_ok_RX11 mo_stranded_code_ok (px_k1 (px_ko (ts := [61, 0, 1, 1, 1, 1, 1, 0]) (ss := []) fun ls st h q e => mo_stranded_97_ok hr17 _ _ _ _ _ _ _ e) px_k0) 62 52 _ _ h q e
set_option maxRecDepth 200000 in
theorem mo_stranded_17_ok {d : Nat} : ∀ (n : Nat) (x2 : Int32) (x3 : Int32) (x4 : Int32) (x5 : Int32) (x6 : Int32) (h : pH) (q : Int32 × pH), mo_stranded_17 n x2 x3 x4 x5 x6 h = some q → px_G (d + 1 + 1) (pX_RX11, prog_13_method_49_code, 8, (some .int)) 17 [some (.inr (.inl 51)), none, some (.inl x2), some (.inl x3), some (.inl x4), some (.inl x5), some (.inl x6), none] [] h q := by
  intro n
  induction n with
  | zero =>
    intro x2 x3 x4 x5 x6 h q e
    cases e
  | succ n ih =>
    intro x2 x3 x4 x5 x6 h q e
    exact px_blk_ok (d := d + 1) (M := (pX_RX11, prog_13_method_49_code, 8, (some .int))) (C := mo_stranded_orc) (code := mo_stranded_code) (ld := [52]) (kl := [(52, fun ls st h => px_if (px_fit [61, 0, 1, 1, 1, 1, 1, 0] ls && px_fits [1] st) (mo_stranded_52 (mo_stranded_17 n) (px_gi ls 2) (px_gi ls 3) (px_gi ls 4) (px_gi ls 5) (px_gi ls 6) (px_si st 0) h))]) (mo_stranded_orc_ok) pX_ok_RX11 mo_stranded_code_ok (px_k1 (px_ko (ts := [61, 0, 1, 1, 1, 1, 1, 0]) (ss := [1]) fun ls st h q e => mo_stranded_52_ok ih _ _ _ _ _ _ _ _ e) px_k0) 62 17 _ _ h q e
set_option maxRecDepth 200000 in
theorem mo_stranded_ok {d : Nat} {x1 : Int32} {x2 : Int32} {h : pH} {q : Int32 × pH} (e : mo_stranded x1 x2 h = some q) : px_Con (d + 2) 221 [.inr (.inl 51), .inl x1, .inl x2] h q :=
  px_con (X := pX_RX11) (b := prog_13_method_49_code) (nL := 8) (rt := (some .int)) rfl rfl (Nat.le_of_ble_eq_true rfl) rfl (px_blk_ok (d := d + 1) (M := (pX_RX11, prog_13_method_49_code, 8, (some .int))) (C := mo_stranded_orc) (code := mo_stranded_code) (ld := [17]) (kl := [(17, fun ls st h => px_if (px_fit [61, 0, 1, 1, 1, 1, 1, 0] ls && px_fits [] st) (mo_stranded_17 px_F (px_gi ls 2) (px_gi ls 3) (px_gi ls 4) (px_gi ls 5) (px_gi ls 6) h))]) (mo_stranded_orc_ok) pX_ok_RX11 mo_stranded_code_ok (px_k1 (px_ko (ts := [61, 0, 1, 1, 1, 1, 1, 0]) (ss := []) fun ls st h q e => mo_stranded_17_ok _ _ _ _ _ _ _ _ e) px_k0) 62 0 _ _ _ q e)
/-! WordsUnsaidModel.put([III)V -/
noncomputable def mo_put_26 (r3 : Nat → Int32 → Int32 → Int32 → pH → pR) (a1 : Nat) (x2 : Int32) (x3 : Int32) (x4 : Int32) (h : pH) : pR :=
  r3 a1 x2 x3 (x4 + px_c 1) h
noncomputable def mo_put_3 : Nat → Nat → Int32 → Int32 → Int32 → pH → pR
  | 0, _, _, _, _, _ => none
  | n + 1, a1, x2, x3, x4, h =>
    if (h 51 4) ≤ x4 then
      some (0, h)
    else
      px_bind (mo_has x2 x4 h) fun z1 h2 =>
      if z1 = 0 then
        mo_put_26 (mo_put_3 n) a1 x2 x3 x4 h2
      else
        px_if (px_ok 0 a1 x4) <|
        let h3 := px_w h2 a1 x4.toNatClampNeg x3
        mo_put_26 (mo_put_3 n) a1 x2 x3 x4 h3
noncomputable def mo_put (a1 : Nat) (x2 : Int32) (x3 : Int32) (h : pH) : pR :=
  mo_put_3 px_F a1 x2 x3 (px_c 0) h
def mo_put_code : pCode := [(0, .iconst 0, 1), (1, .istore 4, 2), (3, .iload 4, 2), (5, .aload_n 0, 1), (6, .getfield 112, 3), (9, .if_icmp .ge (23), 3), (12, .iload_n 2, 1), (13, .iload 4, 2), (15, .invokestatic 227, 3), (18, .ifCond .eq (8), 3), (21, .aload_n 1, 1), (22, .iload 4, 2), (24, .iload_n 3, 1), (25, .iastore, 1), (26, .iinc 4 (1), 3), (29, .goto (-26), 3), (32, .return_, 1)]
set_option maxRecDepth 200000 in
theorem mo_put_code_ok : px_code prog_13_method_48_code mo_put_code = true := by decide +kernel
noncomputable def mo_put_orc : pC := px_orc [(176, fun a h => match a with
    | [.inl v0, .inl v1] => mo_has v0 v1 h
    | _ => none)]
theorem mo_put_orc_ok {d : Nat} : px_Or (d + 1) (mo_put_orc) := px_orc_ok (by
  refine px_o1 (fun a h q e => by
    dsimp only at e
    split at e
    · exact mo_has_ok (d := d + 0) e
    · cases e) ?_
  exact px_o0)
set_option maxRecDepth 200000 in
theorem mo_put_26_ok {d : Nat} {r3 : Nat → Int32 → Int32 → Int32 → pH → pR} (hr3 : ∀ (a1 : Nat) (x2 : Int32) (x3 : Int32) (x4 : Int32) (h : pH) (q : Int32 × pH), r3 a1 x2 x3 x4 h = some q → px_G (d + 1 + 1) (pX_RX11, prog_13_method_48_code, 5, none) 3 [some (.inr (.inl 51)), some (.inr (.inl a1)), some (.inl x2), some (.inl x3), some (.inl x4)] [] h q) : ∀ (a1 : Nat) (x2 : Int32) (x3 : Int32) (x4 : Int32) (h : pH) (q : Int32 × pH), mo_put_26 r3 a1 x2 x3 x4 h = some q → px_G (d + 1 + 1) (pX_RX11, prog_13_method_48_code, 5, none) 26 [some (.inr (.inl 51)), some (.inr (.inl a1)), some (.inl x2), some (.inl x3), some (.inl x4)] [] h q := by
  intro a1 x2 x3 x4 h q e
  exact px_blk_ok (d := d + 1) (M := (pX_RX11, prog_13_method_48_code, 5, none)) (C := mo_put_orc) (code := mo_put_code) (ld := [3]) (kl := [(3, fun ls st h => px_if (px_fit [61, 2, 1, 1, 1] ls && px_fits [] st) (r3 (px_gr ls 1) (px_gi ls 2) (px_gi ls 3) (px_gi ls 4) h))]) (mo_put_orc_ok) pX_ok_RX11 mo_put_code_ok (px_k1 (px_ko (ts := [61, 2, 1, 1, 1]) (ss := []) fun ls st h q e => hr3 _ _ _ _ _ _ e) px_k0) 22 26 _ _ h q e
set_option maxRecDepth 200000 in
theorem mo_put_3_ok {d : Nat} : ∀ (n : Nat) (a1 : Nat) (x2 : Int32) (x3 : Int32) (x4 : Int32) (h : pH) (q : Int32 × pH), mo_put_3 n a1 x2 x3 x4 h = some q → px_G (d + 1 + 1) (pX_RX11, prog_13_method_48_code, 5, none) 3 [some (.inr (.inl 51)), some (.inr (.inl a1)), some (.inl x2), some (.inl x3), some (.inl x4)] [] h q := by
  intro n
  induction n with
  | zero =>
    intro a1 x2 x3 x4 h q e
    cases e
  | succ n ih =>
    intro a1 x2 x3 x4 h q e
    exact px_blk_ok (d := d + 1) (M := (pX_RX11, prog_13_method_48_code, 5, none)) (C := mo_put_orc) (code := mo_put_code) (ld := [26]) (kl := [(26, fun ls st h => px_if (px_fit [61, 2, 1, 1, 1] ls && px_fits [] st) (mo_put_26 (mo_put_3 n) (px_gr ls 1) (px_gi ls 2) (px_gi ls 3) (px_gi ls 4) h))]) (mo_put_orc_ok) pX_ok_RX11 mo_put_code_ok (px_k1 (px_ko (ts := [61, 2, 1, 1, 1]) (ss := []) fun ls st h q e => mo_put_26_ok ih _ _ _ _ _ _ e) px_k0) 22 3 _ _ h q e
set_option maxRecDepth 200000 in
theorem mo_put_ok {d : Nat} {a1 : Nat} {x2 : Int32} {x3 : Int32} {h : pH} {q : Int32 × pH} (e : mo_put a1 x2 x3 h = some q) : px_Con (d + 2) 220 [.inr (.inl 51), .inr (.inl a1), .inl x2, .inl x3] h q :=
  px_con (X := pX_RX11) (b := prog_13_method_48_code) (nL := 5) (rt := none) rfl rfl (Nat.le_of_ble_eq_true rfl) rfl (px_blk_ok (d := d + 1) (M := (pX_RX11, prog_13_method_48_code, 5, none)) (C := mo_put_orc) (code := mo_put_code) (ld := [3]) (kl := [(3, fun ls st h => px_if (px_fit [61, 2, 1, 1, 1] ls && px_fits [] st) (mo_put_3 px_F (px_gr ls 1) (px_gi ls 2) (px_gi ls 3) (px_gi ls 4) h))]) (mo_put_orc_ok) pX_ok_RX11 mo_put_code_ok (px_k1 (px_ko (ts := [61, 2, 1, 1, 1]) (ss := []) fun ls st h q e => mo_put_3_ok _ _ _ _ _ _ _ e) px_k0) 22 0 _ _ _ q e)
/-! WordsUnsaidModel.goes([IIII)Z -/
noncomputable def mo_goes_34 (r25 : Nat → Int32 → Int32 → Int32 → Int32 → Int32 → Int32 → pH → pR) : Nat → Nat → Int32 → Int32 → Int32 → Int32 → Int32 → Int32 → pH → pR
  | 0, _, _, _, _, _, _, _, _ => none
  | n + 1, a1, x2, x3, x4, x5, x6, x7, h =>
    px_if (px_ok 0 65 x6) <|
    px_if (px_ok 0 a1 ((px_c 12) + (h 65 x6.toNatClampNeg))) <|
    if (h a1 ((px_c 12) + (h 65 x6.toNatClampNeg)).toNatClampNeg) = 0 then
      mo_goes_34 r25 n a1 x2 x3 x4 x5 (x6 + px_c 1) (px_c 0) h
    else
      px_if (px_ok 0 65 x6) <|
      let y8_1 := h 65 x6.toNatClampNeg
      px_bind (mo_pressureOf a1 y8_1 x7 (h 51 31) x2 h) fun z2 h3 =>
      let h4 := px_w h3 51 33 z2
      px_if (px_ok 0 a1 ((px_c 32) + y8_1)) <|
      px_if (px_ok 0 54 (h4 a1 ((px_c 32) + y8_1).toNatClampNeg)) <|
      if (h4 51 33) ≤ (h4 54 (h4 a1 ((px_c 32) + y8_1).toNatClampNeg).toNatClampNeg) then
        px_if (px_ok 0 a1 ((px_c 12) + y8_1)) <|
        px_if (px_ok 0 a1 ((px_c 12) + y8_1)) <|
        let h5 := px_w h4 a1 ((px_c 12) + y8_1).toNatClampNeg ((h4 a1 ((px_c 12) + y8_1).toNatClampNeg) - (px_c 1))
        let h6 := px_w h5 51 31 ((h5 51 31) + (px_c 1))
        r25 a1 x2 x3 x4 x5 x6 (x7 + px_c 1) h6
      else
        let h7 := px_w h4 51 32 y8_1
        px_if (px_ok 0 a1 ((px_c 22) + y8_1)) <|
        let h8 := px_w h7 a1 ((px_c 22) + y8_1).toNatClampNeg (px_c 1)
        px_if (px_ok 0 a1 ((px_c 42) + y8_1)) <|
        px_if (px_ok 0 a1 ((px_c 42) + y8_1)) <|
        let h9 := px_w h8 a1 ((px_c 42) + y8_1).toNatClampNeg ((h8 a1 ((px_c 42) + y8_1).toNatClampNeg) ||| x2)
        px_bind (mo_stranded x3 x4 h9) fun z10 h11 =>
        px_bind (mo_put a1 x2 z10 h11) fun _ h13 =>
        px_bz (px_c 0) h13
noncomputable def mo_goes_25 : Nat → Nat → Int32 → Int32 → Int32 → Int32 → Int32 → Int32 → pH → pR
  | 0, _, _, _, _, _, _, _, _ => none
  | n + 1, a1, x2, x3, x4, x5, x6, x7, h =>
    if x5 ≤ (h 51 31) then
      px_bind (mo_put a1 x2 x4 h) fun _ h2 =>
      px_bz (px_c 1) h2
    else
      mo_goes_34 (mo_goes_25 n) px_F a1 x2 x3 x4 x5 x6 x7 h
noncomputable def mo_goes (a1 : Nat) (x2 : Int32) (x3 : Int32) (x4 : Int32) (h : pH) : pR :=
  px_bind (mo_distance x3 x4 h) fun z1 h2 =>
  let h3 := px_w h2 51 31 (px_c 0)
  let h4 := px_w h3 51 32 (px_c (-1))
  mo_goes_25 px_F a1 x2 x3 x4 z1 (px_c 0) (px_c 0) h4
def mo_goes_code : pCode := [(0, .aload_n 0, 1), (1, .iload_n 3, 1), (2, .iload 4, 2), (4, .invokevirtual 268, 3), (7, .istore 5, 2), (9, .iconst 0, 1), (10, .istore 6, 2), (12, .iconst 0, 1), (13, .istore 7, 2), (15, .aload_n 0, 1), (16, .iconst 0, 1), (17, .putfield 271, 3), (20, .aload_n 0, 1), (21, .iconst (-1), 1), (22, .putfield 274, 3), (25, .aload_n 0, 1), (26, .getfield 271, 3), (29, .iload 5, 2), (31, .if_icmp .ge (140), 3), (34, .aload_n 1, 1), (35, .bipush (12), 2), (37, .aload_n 0, 1), (38, .getfield 54, 3), (41, .iload 6, 2), (43, .iaload, 1), (44, .iadd, 1), (45, .iaload, 1), (46, .ifCond .ne (12), 3), (49, .iinc 6 (1), 3), (52, .iconst 0, 1), (53, .istore 7, 2), (55, .goto (-21), 3), (58, .aload_n 0, 1), (59, .getfield 54, 3), (62, .iload 6, 2), (64, .iaload, 1), (65, .istore 8, 2), (67, .aload_n 0, 1), (68, .aload_n 0, 1), (69, .aload_n 1, 1), (70, .iload 8, 2), (72, .iload 7, 2), (74, .aload_n 0, 1), (75, .getfield 271, 3), (78, .iload_n 2, 1), (79, .invokevirtual 277, 3), (82, .putfield 281, 3), (85, .aload_n 0, 1), (86, .getfield 281, 3), (89, .aload_n 0, 1), (90, .getfield 20, 3), (93, .aload_n 1, 1), (94, .bipush (32), 2), (96, .iload 8, 2), (98, .iadd, 1), (99, .iaload, 1), (100, .iaload, 1), (101, .if_icmp .le (43), 3), (104, .aload_n 0, 1), (105, .iload 8, 2), (107, .putfield 274, 3), (110, .aload_n 1, 1), (111, .bipush (22), 2), (113, .iload 8, 2), (115, .iadd, 1), (116, .iconst 1, 1), (117, .iastore, 1), (118, .aload_n 1, 1), (119, .bipush (42), 2), (121, .iload 8, 2), (123, .iadd, 1), (124, .dup2, 1), (125, .iaload, 1), (126, .iload_n 2, 1), (127, .ior, 1), (128, .iastore, 1), (129, .aload_n 0, 1), (130, .aload_n 1, 1), (131, .iload_n 2, 1), (132, .aload_n 0, 1), (133, .iload_n 3, 1), (134, .iload 4, 2), (136, .invokevirtual 284, 3), (139, .invokevirtual 287, 3), (142, .iconst 0, 1), (143, .ireturn, 1), (144, .aload_n 1, 1), (145, .bipush (12), 2), (147, .iload 8, 2), (149, .iadd, 1), (150, .dup2, 1), (151, .iaload, 1), (152, .iconst 1, 1), (153, .isub, 1), (154, .iastore, 1), (155, .iinc 7 (1), 3), (158, .aload_n 0, 1), (159, .dup, 1), (160, .getfield 271, 3), (163, .iconst 1, 1), (164, .iadd, 1), (165, .putfield 271, 3), (168, .goto (-143), 3), (171, .aload_n 0, 1), (172, .aload_n 1, 1), (173, .iload_n 2, 1), (174, .iload 4, 2), (176, .invokevirtual 287, 3), (179, .iconst 1, 1), (180, .ireturn, 1)]
set_option maxRecDepth 200000 in
theorem mo_goes_code_ok : px_code prog_13_method_47_code mo_goes_code = true := by decide +kernel
noncomputable def mo_goes_orc : pC := px_orc [(206, fun a h => match a with
    | [.inr (.inl 51), .inr (.inl v1), .inl v2, .inl v3, .inl v4, .inl v5] => mo_pressureOf v1 v2 v3 v4 v5 h
    | _ => none), (221, fun a h => match a with
    | [.inr (.inl 51), .inl v1, .inl v2] => mo_stranded v1 v2 h
    | _ => none), (220, fun a h => match a with
    | [.inr (.inl 51), .inr (.inl v1), .inl v2, .inl v3] => mo_put v1 v2 v3 h
    | _ => none), (218, fun a h => match a with
    | [.inr (.inl 51), .inl v1, .inl v2] => mo_distance v1 v2 h
    | _ => none)]
theorem mo_goes_orc_ok {d : Nat} : px_Or (d + 105) (mo_goes_orc) := px_orc_ok (by
  refine px_o1 (fun a h q e => by
    dsimp only at e
    split at e
    · exact mo_pressureOf_ok (d := d + 0) e
    · cases e) ?_
  refine px_o1 (fun a h q e => by
    dsimp only at e
    split at e
    · exact mo_stranded_ok (d := d + 103) e
    · cases e) ?_
  refine px_o1 (fun a h q e => by
    dsimp only at e
    split at e
    · exact mo_put_ok (d := d + 103) e
    · cases e) ?_
  refine px_o1 (fun a h q e => by
    dsimp only at e
    split at e
    · exact mo_distance_ok (d := d + 103) e
    · cases e) ?_
  exact px_o0)
set_option maxRecDepth 200000 in
theorem mo_goes_34_ok {d : Nat} {r25 : Nat → Int32 → Int32 → Int32 → Int32 → Int32 → Int32 → pH → pR} (hr25 : ∀ (a1 : Nat) (x2 : Int32) (x3 : Int32) (x4 : Int32) (x5 : Int32) (x6 : Int32) (x7 : Int32) (h : pH) (q : Int32 × pH), r25 a1 x2 x3 x4 x5 x6 x7 h = some q → px_G (d + 105 + 1) (pX_RX11, prog_13_method_47_code, 9, (some .boolean)) 25 [some (.inr (.inl 51)), some (.inr (.inl a1)), some (.inl x2), some (.inl x3), some (.inl x4), some (.inl x5), some (.inl x6), some (.inl x7), none] [] h q) : ∀ (n : Nat) (a1 : Nat) (x2 : Int32) (x3 : Int32) (x4 : Int32) (x5 : Int32) (x6 : Int32) (x7 : Int32) (h : pH) (q : Int32 × pH), mo_goes_34 r25 n a1 x2 x3 x4 x5 x6 x7 h = some q → px_G (d + 105 + 1) (pX_RX11, prog_13_method_47_code, 9, (some .boolean)) 34 [some (.inr (.inl 51)), some (.inr (.inl a1)), some (.inl x2), some (.inl x3), some (.inl x4), some (.inl x5), some (.inl x6), some (.inl x7), none] [] h q := by
  intro n
  induction n with
  | zero =>
    intro a1 x2 x3 x4 x5 x6 x7 h q e
    cases e
  | succ n ih =>
    intro a1 x2 x3 x4 x5 x6 x7 h q e
    exact px_blk_ok (d := d + 105) (M := (pX_RX11, prog_13_method_47_code, 9, (some .boolean))) (C := mo_goes_orc) (code := mo_goes_code) (ld := [25, 34]) (kl := [(25, fun ls st h => px_if (px_fit [61, 2, 1, 1, 1, 1, 1, 1, 0] ls && px_fits [] st) (r25 (px_gr ls 1) (px_gi ls 2) (px_gi ls 3) (px_gi ls 4) (px_gi ls 5) (px_gi ls 6) (px_gi ls 7) h)), (34, fun ls st h => px_if (px_fit [61, 2, 1, 1, 1, 1, 1, 1, 0] ls && px_fits [] st) (mo_goes_34 r25 n (px_gr ls 1) (px_gi ls 2) (px_gi ls 3) (px_gi ls 4) (px_gi ls 5) (px_gi ls 6) (px_gi ls 7) h))]) (mo_goes_orc_ok) pX_ok_RX11 mo_goes_code_ok (px_k1 (px_ko (ts := [61, 2, 1, 1, 1, 1, 1, 1, 0]) (ss := []) fun ls st h q e => hr25 _ _ _ _ _ _ _ _ _ e) (px_k1 (px_ko (ts := [61, 2, 1, 1, 1, 1, 1, 1, 0]) (ss := []) fun ls st h q e => ih _ _ _ _ _ _ _ _ _ e) px_k0)) 115 34 _ _ h q e
set_option maxRecDepth 200000 in
theorem mo_goes_25_ok {d : Nat} : ∀ (n : Nat) (a1 : Nat) (x2 : Int32) (x3 : Int32) (x4 : Int32) (x5 : Int32) (x6 : Int32) (x7 : Int32) (h : pH) (q : Int32 × pH), mo_goes_25 n a1 x2 x3 x4 x5 x6 x7 h = some q → px_G (d + 105 + 1) (pX_RX11, prog_13_method_47_code, 9, (some .boolean)) 25 [some (.inr (.inl 51)), some (.inr (.inl a1)), some (.inl x2), some (.inl x3), some (.inl x4), some (.inl x5), some (.inl x6), some (.inl x7), none] [] h q := by
  intro n
  induction n with
  | zero =>
    intro a1 x2 x3 x4 x5 x6 x7 h q e
    cases e
  | succ n ih =>
    intro a1 x2 x3 x4 x5 x6 x7 h q e
    exact px_blk_ok (d := d + 105) (M := (pX_RX11, prog_13_method_47_code, 9, (some .boolean))) (C := mo_goes_orc) (code := mo_goes_code) (ld := [34]) (kl := [(34, fun ls st h => px_if (px_fit [61, 2, 1, 1, 1, 1, 1, 1, 0] ls && px_fits [] st) (mo_goes_34 (mo_goes_25 n) px_F (px_gr ls 1) (px_gi ls 2) (px_gi ls 3) (px_gi ls 4) (px_gi ls 5) (px_gi ls 6) (px_gi ls 7) h))]) (mo_goes_orc_ok) pX_ok_RX11 mo_goes_code_ok (px_k1 (px_ko (ts := [61, 2, 1, 1, 1, 1, 1, 1, 0]) (ss := []) fun ls st h q e => mo_goes_34_ok ih _ _ _ _ _ _ _ _ _ _ e) px_k0) 115 25 _ _ h q e
set_option maxRecDepth 200000 in
theorem mo_goes_ok {d : Nat} {a1 : Nat} {x2 : Int32} {x3 : Int32} {x4 : Int32} {h : pH} {q : Int32 × pH} (e : mo_goes a1 x2 x3 x4 h = some q) : px_Con (d + 106) 219 [.inr (.inl 51), .inr (.inl a1), .inl x2, .inl x3, .inl x4] h q :=
  px_con (X := pX_RX11) (b := prog_13_method_47_code) (nL := 9) (rt := (some .boolean)) rfl rfl (Nat.le_of_ble_eq_true rfl) rfl (px_blk_ok (d := d + 105) (M := (pX_RX11, prog_13_method_47_code, 9, (some .boolean))) (C := mo_goes_orc) (code := mo_goes_code) (ld := [25]) (kl := [(25, fun ls st h => px_if (px_fit [61, 2, 1, 1, 1, 1, 1, 1, 0] ls && px_fits [] st) (mo_goes_25 px_F (px_gr ls 1) (px_gi ls 2) (px_gi ls 3) (px_gi ls 4) (px_gi ls 5) (px_gi ls 6) (px_gi ls 7) h))]) (mo_goes_orc_ok) pX_ok_RX11 mo_goes_code_ok (px_k1 (px_ko (ts := [61, 2, 1, 1, 1, 1, 1, 1, 0]) (ss := []) fun ls st h q e => mo_goes_25_ok _ _ _ _ _ _ _ _ _ _ e) px_k0) 115 0 _ _ _ q e)
/-! WordsUnsaidModel.wordsIn([I)I -/
noncomputable def mo_wordsIn_4 : Nat → Nat → Int32 → Int32 → pH → pR
  | 0, _, _, _, _ => none
  | n + 1, a1, x2, x3, h =>
    if (h 51 30) ≤ x3 then
      some (x2, h)
    else
      px_if (px_ok 0 65 x3) <|
      px_if (px_ok 0 a1 ((px_c 12) + (h 65 x3.toNatClampNeg))) <|
      let y2_1 := x2 + (h a1 ((px_c 12) + (h 65 x3.toNatClampNeg)).toNatClampNeg)
      mo_wordsIn_4 n a1 y2_1 (x3 + px_c 1) h
noncomputable def mo_wordsIn (a1 : Nat) (h : pH) : pR :=
  mo_wordsIn_4 px_F a1 (px_c 0) (px_c 0) h
def mo_wordsIn_code : pCode := [(0, .iconst 0, 1), (1, .istore_n 2, 1), (2, .iconst 0, 1), (3, .istore_n 3, 1), (4, .iload_n 3, 1), (5, .aload_n 0, 1), (6, .getfield 292, 3), (9, .if_icmp .ge (23), 3), (12, .iload_n 2, 1), (13, .aload_n 1, 1), (14, .bipush (12), 2), (16, .aload_n 0, 1), (17, .getfield 54, 3), (20, .iload_n 3, 1), (21, .iaload, 1), (22, .iadd, 1), (23, .iaload, 1), (24, .iadd, 1), (25, .istore_n 2, 1), (26, .iinc 3 (1), 3), (29, .goto (-25), 3), (32, .iload_n 2, 1), (33, .ireturn, 1)]
set_option maxRecDepth 200000 in
theorem mo_wordsIn_code_ok : px_code prog_13_method_50_code mo_wordsIn_code = true := by decide +kernel
noncomputable def mo_wordsIn_orc : pC := px_orc []
theorem mo_wordsIn_orc_ok {d : Nat} : px_Or (d + 0) (mo_wordsIn_orc) := px_orc_ok (by
  exact px_o0)
set_option maxRecDepth 200000 in
theorem mo_wordsIn_4_ok {d : Nat} : ∀ (n : Nat) (a1 : Nat) (x2 : Int32) (x3 : Int32) (h : pH) (q : Int32 × pH), mo_wordsIn_4 n a1 x2 x3 h = some q → px_G (d + 0 + 1) (pX_RX11, prog_13_method_50_code, 4, (some .int)) 4 [some (.inr (.inl 51)), some (.inr (.inl a1)), some (.inl x2), some (.inl x3)] [] h q := by
  intro n
  induction n with
  | zero =>
    intro a1 x2 x3 h q e
    cases e
  | succ n ih =>
    intro a1 x2 x3 h q e
    exact px_blk_ok (d := d + 0) (M := (pX_RX11, prog_13_method_50_code, 4, (some .int))) (C := mo_wordsIn_orc) (code := mo_wordsIn_code) (ld := [4]) (kl := [(4, fun ls st h => px_if (px_fit [61, 2, 1, 1] ls && px_fits [] st) (mo_wordsIn_4 n (px_gr ls 1) (px_gi ls 2) (px_gi ls 3) h))]) (mo_wordsIn_orc_ok) pX_ok_RX11 mo_wordsIn_code_ok (px_k1 (px_ko (ts := [61, 2, 1, 1]) (ss := []) fun ls st h q e => ih _ _ _ _ _ e) px_k0) 28 4 _ _ h q e
set_option maxRecDepth 200000 in
theorem mo_wordsIn_ok {d : Nat} {a1 : Nat} {h : pH} {q : Int32 × pH} (e : mo_wordsIn a1 h = some q) : px_Con (d + 1) 222 [.inr (.inl 51), .inr (.inl a1)] h q :=
  px_con (X := pX_RX11) (b := prog_13_method_50_code) (nL := 4) (rt := (some .int)) rfl rfl (Nat.le_of_ble_eq_true rfl) rfl (px_blk_ok (d := d + 0) (M := (pX_RX11, prog_13_method_50_code, 4, (some .int))) (C := mo_wordsIn_orc) (code := mo_wordsIn_code) (ld := [4]) (kl := [(4, fun ls st h => px_if (px_fit [61, 2, 1, 1] ls && px_fits [] st) (mo_wordsIn_4 px_F (px_gr ls 1) (px_gi ls 2) (px_gi ls 3) h))]) (mo_wordsIn_orc_ok) pX_ok_RX11 mo_wordsIn_code_ok (px_k1 (px_ko (ts := [61, 2, 1, 1]) (ss := []) fun ls st h q e => mo_wordsIn_4_ok _ _ _ _ _ _ e) px_k0) 28 0 _ _ _ q e)
/-! WordsUnsaidModel.lay([I[II)V -/
noncomputable def mo_lay_2 : Nat → Nat → Nat → Int32 → Int32 → pH → pR
  | 0, _, _, _, _, _ => none
  | n + 1, a0, a1, x2, x3, h =>
    if (px_c 52) ≤ x3 then
      some (0, h)
    else
      px_if (px_ok 0 a0 x3) <|
      px_if (px_ok 0 a1 (x2 + x3)) <|
      let h1 := px_w h a1 (x2 + x3).toNatClampNeg (h a0 x3.toNatClampNeg)
      mo_lay_2 n a0 a1 x2 (x3 + px_c 1) h1
noncomputable def mo_lay (a0 : Nat) (a1 : Nat) (x2 : Int32) (h : pH) : pR :=
  mo_lay_2 px_F a0 a1 x2 (px_c 0) h
def mo_lay_code : pCode := [(0, .iconst 0, 1), (1, .istore_n 3, 1), (2, .iload_n 3, 1), (3, .bipush (52), 2), (5, .if_icmp .ge (17), 3), (8, .aload_n 1, 1), (9, .iload_n 2, 1), (10, .iload_n 3, 1), (11, .iadd, 1), (12, .aload_n 0, 1), (13, .iload_n 3, 1), (14, .iaload, 1), (15, .iastore, 1), (16, .iinc 3 (1), 3), (19, .goto (-17), 3), (22, .return_, 1)]
set_option maxRecDepth 200000 in
theorem mo_lay_code_ok : px_code prog_13_method_51_code mo_lay_code = true := by decide +kernel
noncomputable def mo_lay_orc : pC := px_orc []
theorem mo_lay_orc_ok {d : Nat} : px_Or (d + 0) (mo_lay_orc) := px_orc_ok (by
  exact px_o0)
set_option maxRecDepth 200000 in
theorem mo_lay_2_ok {d : Nat} : ∀ (n : Nat) (a0 : Nat) (a1 : Nat) (x2 : Int32) (x3 : Int32) (h : pH) (q : Int32 × pH), mo_lay_2 n a0 a1 x2 x3 h = some q → px_G (d + 0 + 1) (pX_RX11, prog_13_method_51_code, 4, none) 2 [some (.inr (.inl a0)), some (.inr (.inl a1)), some (.inl x2), some (.inl x3)] [] h q := by
  intro n
  induction n with
  | zero =>
    intro a0 a1 x2 x3 h q e
    cases e
  | succ n ih =>
    intro a0 a1 x2 x3 h q e
    exact px_blk_ok (d := d + 0) (M := (pX_RX11, prog_13_method_51_code, 4, none)) (C := mo_lay_orc) (code := mo_lay_code) (ld := [2]) (kl := [(2, fun ls st h => px_if (px_fit [2, 2, 1, 1] ls && px_fits [] st) (mo_lay_2 n (px_gr ls 0) (px_gr ls 1) (px_gi ls 2) (px_gi ls 3) h))]) (mo_lay_orc_ok) pX_ok_RX11 mo_lay_code_ok (px_k1 (px_ko (ts := [2, 2, 1, 1]) (ss := []) fun ls st h q e => ih _ _ _ _ _ _ e) px_k0) 21 2 _ _ h q e
set_option maxRecDepth 200000 in
theorem mo_lay_ok {d : Nat} {a0 : Nat} {a1 : Nat} {x2 : Int32} {h : pH} {q : Int32 × pH} (e : mo_lay a0 a1 x2 h = some q) : px_Con (d + 1) 223 [.inr (.inl a0), .inr (.inl a1), .inl x2] h q :=
  px_con (X := pX_RX11) (b := prog_13_method_51_code) (nL := 4) (rt := none) rfl rfl (Nat.le_of_ble_eq_true rfl) rfl (px_blk_ok (d := d + 0) (M := (pX_RX11, prog_13_method_51_code, 4, none)) (C := mo_lay_orc) (code := mo_lay_code) (ld := [2]) (kl := [(2, fun ls st h => px_if (px_fit [2, 2, 1, 1] ls && px_fits [] st) (mo_lay_2 px_F (px_gr ls 0) (px_gr ls 1) (px_gi ls 2) (px_gi ls 3) h))]) (mo_lay_orc_ok) pX_ok_RX11 mo_lay_code_ok (px_k1 (px_ko (ts := [2, 2, 1, 1]) (ss := []) fun ls st h q e => mo_lay_2_ok _ _ _ _ _ _ _ e) px_k0) 21 0 _ _ _ q e)
/-! WordsUnsaidModel.remember([I)V -/
noncomputable def mo_remember_49 (a1 : Nat) (h : pH) : pR :=
  px_bind (mo_lay a1 66 ((px_c 52) * (h 51 35)) h) fun _ h2 =>
  let h3 := px_w h2 51 35 ((h2 51 35) + (px_c 1))
  some (0, h3)
noncomputable def mo_remember_11 : Nat → Nat → Int32 → pH → pR
  | 0, _, _, _ => none
  | n + 1, a1, x2, h =>
    if (px_c 572) ≤ x2 then
      let h1 := px_w h 51 35 ((h 51 35) - (px_c 1))
      mo_remember_49 a1 h1
    else
      px_if (px_ok 0 66 (x2 + (px_c 52))) <|
      px_if (px_ok 0 66 x2) <|
      let h2 := px_w h 66 x2.toNatClampNeg (h 66 (x2 + (px_c 52)).toNatClampNeg)
      mo_remember_11 n a1 (x2 + px_c 1) h2
noncomputable def mo_remember (a1 : Nat) (h : pH) : pR :=
  if (h 51 35) = (px_c 12) then
    mo_remember_11 px_F a1 (px_c 0) h
  else
    mo_remember_49 a1 h
def mo_remember_code : pCode := [(0, .aload_n 0, 1), (1, .getfield 177, 3), (4, .bipush (12), 2), (6, .if_icmp .ne (43), 3), (9, .iconst 0, 1), (10, .istore_n 2, 1), (11, .iload_n 2, 1), (12, .sipush (572), 3), (15, .if_icmp .ge (24), 3), (18, .aload_n 0, 1), (19, .getfield 57, 3), (22, .iload_n 2, 1), (23, .aload_n 0, 1), (24, .getfield 57, 3), (27, .iload_n 2, 1), (28, .bipush (52), 2), (30, .iadd, 1), (31, .iaload, 1), (32, .iastore, 1), (33, .iinc 2 (1), 3), (36, .goto (-25), 3), (39, .aload_n 0, 1), (40, .dup, 1), (41, .getfield 177, 3), (44, .iconst 1, 1), (45, .isub, 1), (46, .putfield 177, 3), (49, .aload_n 1, 1), (50, .aload_n 0, 1), (51, .getfield 57, 3), (54, .bipush (52), 2), (56, .aload_n 0, 1), (57, .getfield 177, 3), (60, .imul, 1), (61, .invokestatic 295, 3), (64, .aload_n 0, 1), (65, .dup, 1), (66, .getfield 177, 3), (69, .iconst 1, 1), (70, .iadd, 1), (71, .putfield 177, 3), (74, .return_, 1)]
set_option maxRecDepth 200000 in
theorem mo_remember_code_ok : px_code prog_13_method_52_code mo_remember_code = true := by decide +kernel
noncomputable def mo_remember_orc : pC := px_orc [(223, fun a h => match a with
    | [.inr (.inl v0), .inr (.inl v1), .inl v2] => mo_lay v0 v1 v2 h
    | _ => none)]
theorem mo_remember_orc_ok {d : Nat} : px_Or (d + 1) (mo_remember_orc) := px_orc_ok (by
  refine px_o1 (fun a h q e => by
    dsimp only at e
    split at e
    · exact mo_lay_ok (d := d + 0) e
    · cases e) ?_
  exact px_o0)
set_option maxRecDepth 200000 in
theorem mo_remember_49_ok {d : Nat} : ∀ (a1 : Nat) (h : pH) (q : Int32 × pH), mo_remember_49 a1 h = some q → px_G (d + 1 + 1) (pX_RX11, prog_13_method_52_code, 3, none) 49 [some (.inr (.inl 51)), some (.inr (.inl a1)), none] [] h q := by
  intro a1 h q e
  exact px_blk_ok (d := d + 1) (M := (pX_RX11, prog_13_method_52_code, 3, none)) (C := mo_remember_orc) (code := mo_remember_code) (ld := []) (kl := []) (mo_remember_orc_ok) pX_ok_RX11 mo_remember_code_ok (px_k0) 47 49 _ _ h q e
set_option maxRecDepth 200000 in
theorem mo_remember_11_ok {d : Nat} : ∀ (n : Nat) (a1 : Nat) (x2 : Int32) (h : pH) (q : Int32 × pH), mo_remember_11 n a1 x2 h = some q → px_G (d + 1 + 1) (pX_RX11, prog_13_method_52_code, 3, none) 11 [some (.inr (.inl 51)), some (.inr (.inl a1)), some (.inl x2)] [] h q := by
  intro n
  induction n with
  | zero =>
    intro a1 x2 h q e
    cases e
  | succ n ih =>
    intro a1 x2 h q e
    exact px_blk_ok (d := d + 1) (M := (pX_RX11, prog_13_method_52_code, 3, none)) (C := mo_remember_orc) (code := mo_remember_code) (ld := [11, 49]) (kl := [(11, fun ls st h => px_if (px_fit [61, 2, 1] ls && px_fits [] st) (mo_remember_11 n (px_gr ls 1) (px_gi ls 2) h)), (49, fun ls st h => px_if (px_fit [61, 2, 0] ls && px_fits [] st) (mo_remember_49 (px_gr ls 1) h))]) (mo_remember_orc_ok) pX_ok_RX11 mo_remember_code_ok (px_k1 (px_ko (ts := [61, 2, 1]) (ss := []) fun ls st h q e => ih _ _ _ _ e) (px_k1 (px_ko (ts := [61, 2, 0]) (ss := []) fun ls st h q e => mo_remember_49_ok _ _ _ e) px_k0)) 47 11 _ _ h q e
set_option maxRecDepth 200000 in
theorem mo_remember_ok {d : Nat} {a1 : Nat} {h : pH} {q : Int32 × pH} (e : mo_remember a1 h = some q) : px_Con (d + 2) 224 [.inr (.inl 51), .inr (.inl a1)] h q :=
  px_con (X := pX_RX11) (b := prog_13_method_52_code) (nL := 3) (rt := none) rfl rfl (Nat.le_of_ble_eq_true rfl) rfl (px_blk_ok (d := d + 1) (M := (pX_RX11, prog_13_method_52_code, 3, none)) (C := mo_remember_orc) (code := mo_remember_code) (ld := [11, 49]) (kl := [(11, fun ls st h => px_if (px_fit [61, 2, 1] ls && px_fits [] st) (mo_remember_11 px_F (px_gr ls 1) (px_gi ls 2) h)), (49, fun ls st h => px_if (px_fit [61, 2, 0] ls && px_fits [] st) (mo_remember_49 (px_gr ls 1) h))]) (mo_remember_orc_ok) pX_ok_RX11 mo_remember_code_ok (px_k1 (px_ko (ts := [61, 2, 1]) (ss := []) fun ls st h q e => mo_remember_11_ok _ _ _ _ _ e) (px_k1 (px_ko (ts := [61, 2, 0]) (ss := []) fun ls st h q e => mo_remember_49_ok _ _ _ e) px_k0)) 47 0 _ _ _ q e)
