/-! the reference: small ones -/
/-! WordsUnsaidModel.thrown()I -/
noncomputable def mo_thrown (h : pH) : pR :=
  some (h 51 14, h)
def mo_thrown_code : pCode := [(0, .aload_n 0, 1), (1, .getfield 106, 3), (4, .ireturn, 1)]
set_option maxRecDepth 200000 in
theorem mo_thrown_code_ok : px_code prog_13_method_2_code mo_thrown_code = true := by decide +kernel
noncomputable def mo_thrown_orc : pC := px_orc []
theorem mo_thrown_orc_ok {d : Nat} : px_Or (d + 0) (mo_thrown_orc) := px_orc_ok (by
  exact px_o0)
set_option maxRecDepth 200000 in
theorem mo_thrown_ok {d : Nat} {h : pH} {q : Int32 × pH} (e : mo_thrown h = some q) : px_Con (d + 1) 174 [.inr (.inl 51)] h q :=
  px_con (X := pX_RX11) (b := prog_13_method_2_code) (nL := 1) (rt := (some .int)) rfl rfl (Nat.le_of_ble_eq_true rfl) rfl (px_blk_ok (d := d + 0) (M := (pX_RX11, prog_13_method_2_code, 1, (some .int))) (C := mo_thrown_orc) (code := mo_thrown_code) (ld := []) (kl := []) (mo_thrown_orc_ok) pX_ok_RX11 mo_thrown_code_ok (px_k0) 8 0 _ _ _ q e)
/-! WordsUnsaidModel.in(III)Z -/
noncomputable def mo_in_15 (s0 : Int32) (h : pH) : pR :=
  px_bz s0 h
noncomputable def mo_in_14 (h : pH) : pR :=
  mo_in_15 (px_c 0) h
noncomputable def mo_in (x0 : Int32) (x1 : Int32) (x2 : Int32) (h : pH) : pR :=
  if x0 < x1 then
    mo_in_14 h
  else
    if x2 < x0 then
      mo_in_14 h
    else
      mo_in_15 (px_c 1) h
def mo_in_code : pCode := [(0, .iload_n 0, 1), (1, .iload_n 1, 1), (2, .if_icmp .lt (12), 3), (5, .iload_n 0, 1), (6, .iload_n 2, 1), (7, .if_icmp .gt (7), 3), (10, .iconst 1, 1), (11, .goto (4), 3), (14, .iconst 0, 1), (15, .ireturn, 1)]
set_option maxRecDepth 200000 in
theorem mo_in_code_ok : px_code prog_13_method_3_code mo_in_code = true := by decide +kernel
noncomputable def mo_in_orc : pC := px_orc []
theorem mo_in_orc_ok {d : Nat} : px_Or (d + 0) (mo_in_orc) := px_orc_ok (by
  exact px_o0)
set_option maxRecDepth 200000 in
theorem mo_in_15_ok {d : Nat} : ∀ (s0 : Int32) (h : pH) (q : Int32 × pH), mo_in_15 s0 h = some q → px_G (d + 0 + 1) (pX_RX11, prog_13_method_3_code, 3, (some .boolean)) 15 [none, none, none] [.inl s0] h q := by
  intro s0 h q e
  exact px_blk_ok (d := d + 0) (M := (pX_RX11, prog_13_method_3_code, 3, (some .boolean))) (C := mo_in_orc) (code := mo_in_code) (ld := []) (kl := []) (mo_in_orc_ok) pX_ok_RX11 mo_in_code_ok (px_k0) 15 15 _ _ h q e
set_option maxRecDepth 200000 in
theorem mo_in_14_ok {d : Nat} : ∀ (h : pH) (q : Int32 × pH), mo_in_14 h = some q → px_G (d + 0 + 1) (pX_RX11, prog_13_method_3_code, 3, (some .boolean)) 14 [none, none, none] [] h q := by
  intro h q e
  exact px_blk_ok (d := d + 0) (M := (pX_RX11, prog_13_method_3_code, 3, (some .boolean))) (C := mo_in_orc) (code := mo_in_code) (ld := [15]) (kl := [(15, fun ls st h => px_if (px_fit [0, 0, 0] ls && px_fits [1] st) (mo_in_15 (px_si st 0) h))]) (mo_in_orc_ok) pX_ok_RX11 mo_in_code_ok (px_k1 (px_ko (ts := [0, 0, 0]) (ss := [1]) fun ls st h q e => mo_in_15_ok _ _ _ e) px_k0) 15 14 _ _ h q e
set_option maxRecDepth 200000 in
theorem mo_in_ok {d : Nat} {x0 : Int32} {x1 : Int32} {x2 : Int32} {h : pH} {q : Int32 × pH} (e : mo_in x0 x1 x2 h = some q) : px_Con (d + 1) 175 [.inl x0, .inl x1, .inl x2] h q :=
  px_con (X := pX_RX11) (b := prog_13_method_3_code) (nL := 3) (rt := (some .boolean)) rfl rfl (Nat.le_of_ble_eq_true rfl) rfl (px_blk_ok (d := d + 0) (M := (pX_RX11, prog_13_method_3_code, 3, (some .boolean))) (C := mo_in_orc) (code := mo_in_code) (ld := [14, 15]) (kl := [(14, fun ls st h => px_if (px_fit [0, 0, 0] ls && px_fits [] st) (mo_in_14 h)), (15, fun ls st h => px_if (px_fit [0, 0, 0] ls && px_fits [1] st) (mo_in_15 (px_si st 0) h))]) (mo_in_orc_ok) pX_ok_RX11 mo_in_code_ok (px_k1 (px_ko (ts := [0, 0, 0]) (ss := []) fun ls st h q e => mo_in_14_ok _ _ e) (px_k1 (px_ko (ts := [0, 0, 0]) (ss := [1]) fun ls st h q e => mo_in_15_ok _ _ _ e) px_k0)) 15 0 _ _ _ q e)
/-! WordsUnsaidModel.has(II)Z -/
noncomputable def mo_has_14 (s0 : Int32) (h : pH) : pR :=
  px_bz s0 h
noncomputable def mo_has (x0 : Int32) (x1 : Int32) (h : pH) : pR :=
  if ((x0 >>> (x1 &&& 31)) &&& (px_c 1)) = (px_c 1) then
    mo_has_14 (px_c 1) h
  else
    mo_has_14 (px_c 0) h
def mo_has_code : pCode := [(0, .iload_n 0, 1), (1, .iload_n 1, 1), (2, .ishr, 1), (3, .iconst 1, 1), (4, .iand, 1), (5, .iconst 1, 1), (6, .if_icmp .ne (7), 3), (9, .iconst 1, 1), (10, .goto (4), 3), (13, .iconst 0, 1), (14, .ireturn, 1)]
set_option maxRecDepth 200000 in
theorem mo_has_code_ok : px_code prog_13_method_4_code mo_has_code = true := by decide +kernel
noncomputable def mo_has_orc : pC := px_orc []
theorem mo_has_orc_ok {d : Nat} : px_Or (d + 0) (mo_has_orc) := px_orc_ok (by
  exact px_o0)
set_option maxRecDepth 200000 in
theorem mo_has_14_ok {d : Nat} : ∀ (s0 : Int32) (h : pH) (q : Int32 × pH), mo_has_14 s0 h = some q → px_G (d + 0 + 1) (pX_RX11, prog_13_method_4_code, 2, (some .boolean)) 14 [none, none] [.inl s0] h q := by
  intro s0 h q e
  exact px_blk_ok (d := d + 0) (M := (pX_RX11, prog_13_method_4_code, 2, (some .boolean))) (C := mo_has_orc) (code := mo_has_code) (ld := []) (kl := []) (mo_has_orc_ok) pX_ok_RX11 mo_has_code_ok (px_k0) 16 14 _ _ h q e
set_option maxRecDepth 200000 in
theorem mo_has_ok {d : Nat} {x0 : Int32} {x1 : Int32} {h : pH} {q : Int32 × pH} (e : mo_has x0 x1 h = some q) : px_Con (d + 1) 176 [.inl x0, .inl x1] h q :=
  px_con (X := pX_RX11) (b := prog_13_method_4_code) (nL := 2) (rt := (some .boolean)) rfl rfl (Nat.le_of_ble_eq_true rfl) rfl (px_blk_ok (d := d + 0) (M := (pX_RX11, prog_13_method_4_code, 2, (some .boolean))) (C := mo_has_orc) (code := mo_has_code) (ld := [14]) (kl := [(14, fun ls st h => px_if (px_fit [0, 0] ls && px_fits [1] st) (mo_has_14 (px_si st 0) h))]) (mo_has_orc_ok) pX_ok_RX11 mo_has_code_ok (px_k1 (px_ko (ts := [0, 0]) (ss := [1]) fun ls st h q e => mo_has_14_ok _ _ _ e) px_k0) 16 0 _ _ _ q e)
/-! WordsUnsaidModel.lost()I -/
noncomputable def mo_lost (h : pH) : pR :=
  let h1 := px_w h 51 14 (px_c 1)
  some (px_c 0, h1)
def mo_lost_code : pCode := [(0, .aload_n 0, 1), (1, .iconst 1, 1), (2, .putfield 106, 3), (5, .iconst 0, 1), (6, .ireturn, 1)]
set_option maxRecDepth 200000 in
theorem mo_lost_code_ok : px_code prog_13_method_5_code mo_lost_code = true := by decide +kernel
noncomputable def mo_lost_orc : pC := px_orc []
theorem mo_lost_orc_ok {d : Nat} : px_Or (d + 0) (mo_lost_orc) := px_orc_ok (by
  exact px_o0)
set_option maxRecDepth 200000 in
theorem mo_lost_ok {d : Nat} {h : pH} {q : Int32 × pH} (e : mo_lost h = some q) : px_Con (d + 1) 177 [.inr (.inl 51)] h q :=
  px_con (X := pX_RX11) (b := prog_13_method_5_code) (nL := 1) (rt := (some .int)) rfl rfl (Nat.le_of_ble_eq_true rfl) rfl (px_blk_ok (d := d + 0) (M := (pX_RX11, prog_13_method_5_code, 1, (some .int))) (C := mo_lost_orc) (code := mo_lost_code) (ld := []) (kl := []) (mo_lost_orc_ok) pX_ok_RX11 mo_lost_code_ok (px_k0) 10 0 _ _ _ q e)
/-! WordsUnsaidModel.tell(I)V -/
noncomputable def mo_tell (x1 : Int32) (h : pH) : pR :=
  px_if (px_ok 0 59 (h 51 13)) <|
  let h1 := px_w h 59 (h 51 13).toNatClampNeg x1
  let h2 := px_w h1 51 13 ((h1 51 13) + (px_c 1))
  some (0, h2)
def mo_tell_code : pCode := [(0, .aload_n 0, 1), (1, .getfield 36, 3), (4, .aload_n 0, 1), (5, .getfield 109, 3), (8, .iload_n 1, 1), (9, .iastore, 1), (10, .aload_n 0, 1), (11, .dup, 1), (12, .getfield 109, 3), (15, .iconst 1, 1), (16, .iadd, 1), (17, .putfield 109, 3), (20, .return_, 1)]
set_option maxRecDepth 200000 in
theorem mo_tell_code_ok : px_code prog_13_method_6_code mo_tell_code = true := by decide +kernel
noncomputable def mo_tell_orc : pC := px_orc []
theorem mo_tell_orc_ok {d : Nat} : px_Or (d + 0) (mo_tell_orc) := px_orc_ok (by
  exact px_o0)
set_option maxRecDepth 200000 in
theorem mo_tell_ok {d : Nat} {x1 : Int32} {h : pH} {q : Int32 × pH} (e : mo_tell x1 h = some q) : px_Con (d + 1) 178 [.inr (.inl 51), .inl x1] h q :=
  px_con (X := pX_RX11) (b := prog_13_method_6_code) (nL := 2) (rt := none) rfl rfl (Nat.le_of_ble_eq_true rfl) rfl (px_blk_ok (d := d + 0) (M := (pX_RX11, prog_13_method_6_code, 2, none)) (C := mo_tell_orc) (code := mo_tell_code) (ld := []) (kl := []) (mo_tell_orc_ok) pX_ok_RX11 mo_tell_code_ok (px_k0) 18 0 _ _ _ q e)
/-! WordsUnsaidModel.isPerson(I)Z -/
noncomputable def mo_isPerson (x1 : Int32) (h : pH) : pR :=
  px_bind (mo_in x1 (px_c 0) ((h 51 4) - (px_c 1)) h) fun z1 h2 =>
  px_bz z1 h2
def mo_isPerson_code : pCode := [(0, .iload_n 1, 1), (1, .iconst 0, 1), (2, .aload_n 0, 1), (3, .getfield 112, 3), (6, .iconst 1, 1), (7, .isub, 1), (8, .invokestatic 115, 3), (11, .ireturn, 1)]
set_option maxRecDepth 200000 in
theorem mo_isPerson_code_ok : px_code prog_13_method_7_code mo_isPerson_code = true := by decide +kernel
noncomputable def mo_isPerson_orc : pC := px_orc [(175, fun a h => match a with
    | [.inl v0, .inl v1, .inl v2] => mo_in v0 v1 v2 h
    | _ => none)]
theorem mo_isPerson_orc_ok {d : Nat} : px_Or (d + 1) (mo_isPerson_orc) := px_orc_ok (by
  refine px_o1 (fun a h q e => by
    dsimp only at e
    split at e
    · exact mo_in_ok (d := d + 0) e
    · cases e) ?_
  exact px_o0)
set_option maxRecDepth 200000 in
theorem mo_isPerson_ok {d : Nat} {x1 : Int32} {h : pH} {q : Int32 × pH} (e : mo_isPerson x1 h = some q) : px_Con (d + 2) 179 [.inr (.inl 51), .inl x1] h q :=
  px_con (X := pX_RX11) (b := prog_13_method_7_code) (nL := 2) (rt := (some .boolean)) rfl rfl (Nat.le_of_ble_eq_true rfl) rfl (px_blk_ok (d := d + 1) (M := (pX_RX11, prog_13_method_7_code, 2, (some .boolean))) (C := mo_isPerson_orc) (code := mo_isPerson_code) (ld := []) (kl := []) (mo_isPerson_orc_ok) pX_ok_RX11 mo_isPerson_code_ok (px_k0) 13 0 _ _ _ q e)
/-! WordsUnsaidModel.isThing(I)Z -/
noncomputable def mo_isThing (x1 : Int32) (h : pH) : pR :=
  px_bind (mo_in x1 (px_c 0) ((h 51 6) - (px_c 1)) h) fun z1 h2 =>
  px_bz z1 h2
def mo_isThing_code : pCode := [(0, .iload_n 1, 1), (1, .iconst 0, 1), (2, .aload_n 0, 1), (3, .getfield 119, 3), (6, .iconst 1, 1), (7, .isub, 1), (8, .invokestatic 115, 3), (11, .ireturn, 1)]
set_option maxRecDepth 200000 in
theorem mo_isThing_code_ok : px_code prog_13_method_8_code mo_isThing_code = true := by decide +kernel
noncomputable def mo_isThing_orc : pC := px_orc [(175, fun a h => match a with
    | [.inl v0, .inl v1, .inl v2] => mo_in v0 v1 v2 h
    | _ => none)]
theorem mo_isThing_orc_ok {d : Nat} : px_Or (d + 1) (mo_isThing_orc) := px_orc_ok (by
  refine px_o1 (fun a h q e => by
    dsimp only at e
    split at e
    · exact mo_in_ok (d := d + 0) e
    · cases e) ?_
  exact px_o0)
set_option maxRecDepth 200000 in
theorem mo_isThing_ok {d : Nat} {x1 : Int32} {h : pH} {q : Int32 × pH} (e : mo_isThing x1 h = some q) : px_Con (d + 2) 180 [.inr (.inl 51), .inl x1] h q :=
  px_con (X := pX_RX11) (b := prog_13_method_8_code) (nL := 2) (rt := (some .boolean)) rfl rfl (Nat.le_of_ble_eq_true rfl) rfl (px_blk_ok (d := d + 1) (M := (pX_RX11, prog_13_method_8_code, 2, (some .boolean))) (C := mo_isThing_orc) (code := mo_isThing_code) (ld := []) (kl := []) (mo_isThing_orc_ok) pX_ok_RX11 mo_isThing_code_ok (px_k0) 13 0 _ _ _ q e)
/-! WordsUnsaidModel.areTwo(II)Z -/
noncomputable def mo_areTwo_26 (s0 : Int32) (h : pH) : pR :=
  px_bz s0 h
noncomputable def mo_areTwo_25 (h : pH) : pR :=
  mo_areTwo_26 (px_c 0) h
noncomputable def mo_areTwo (x1 : Int32) (x2 : Int32) (h : pH) : pR :=
  px_bind (mo_isPerson x1 h) fun z1 h2 =>
  if z1 = 0 then
    mo_areTwo_25 h2
  else
    px_bind (mo_isPerson x2 h2) fun z3 h4 =>
    if z3 = 0 then
      mo_areTwo_25 h4
    else
      if x1 = x2 then
        mo_areTwo_25 h4
      else
        mo_areTwo_26 (px_c 1) h4
def mo_areTwo_code : pCode := [(0, .aload_n 0, 1), (1, .iload_n 1, 1), (2, .invokevirtual 122, 3), (5, .ifCond .eq (20), 3), (8, .aload_n 0, 1), (9, .iload_n 2, 1), (10, .invokevirtual 122, 3), (13, .ifCond .eq (12), 3), (16, .iload_n 1, 1), (17, .iload_n 2, 1), (18, .if_icmp .eq (7), 3), (21, .iconst 1, 1), (22, .goto (4), 3), (25, .iconst 0, 1), (26, .ireturn, 1)]
set_option maxRecDepth 200000 in
theorem mo_areTwo_code_ok : px_code prog_13_method_9_code mo_areTwo_code = true := by decide +kernel
noncomputable def mo_areTwo_orc : pC := px_orc [(179, fun a h => match a with
    | [.inr (.inl 51), .inl v1] => mo_isPerson v1 h
    | _ => none)]
theorem mo_areTwo_orc_ok {d : Nat} : px_Or (d + 2) (mo_areTwo_orc) := px_orc_ok (by
  refine px_o1 (fun a h q e => by
    dsimp only at e
    split at e
    · exact mo_isPerson_ok (d := d + 0) e
    · cases e) ?_
  exact px_o0)
set_option maxRecDepth 200000 in
theorem mo_areTwo_26_ok {d : Nat} : ∀ (s0 : Int32) (h : pH) (q : Int32 × pH), mo_areTwo_26 s0 h = some q → px_G (d + 2 + 1) (pX_RX11, prog_13_method_9_code, 3, (some .boolean)) 26 [none, none, none] [.inl s0] h q := by
  intro s0 h q e
  exact px_blk_ok (d := d + 2) (M := (pX_RX11, prog_13_method_9_code, 3, (some .boolean))) (C := mo_areTwo_orc) (code := mo_areTwo_code) (ld := []) (kl := []) (mo_areTwo_orc_ok) pX_ok_RX11 mo_areTwo_code_ok (px_k0) 20 26 _ _ h q e
set_option maxRecDepth 200000 in
theorem mo_areTwo_25_ok {d : Nat} : ∀ (h : pH) (q : Int32 × pH), mo_areTwo_25 h = some q → px_G (d + 2 + 1) (pX_RX11, prog_13_method_9_code, 3, (some .boolean)) 25 [none, none, none] [] h q := by
  intro h q e
  exact px_blk_ok (d := d + 2) (M := (pX_RX11, prog_13_method_9_code, 3, (some .boolean))) (C := mo_areTwo_orc) (code := mo_areTwo_code) (ld := [26]) (kl := [(26, fun ls st h => px_if (px_fit [0, 0, 0] ls && px_fits [1] st) (mo_areTwo_26 (px_si st 0) h))]) (mo_areTwo_orc_ok) pX_ok_RX11 mo_areTwo_code_ok (px_k1 (px_ko (ts := [0, 0, 0]) (ss := [1]) fun ls st h q e => mo_areTwo_26_ok _ _ _ e) px_k0) 20 25 _ _ h q e
set_option maxRecDepth 200000 in
theorem mo_areTwo_ok {d : Nat} {x1 : Int32} {x2 : Int32} {h : pH} {q : Int32 × pH} (e : mo_areTwo x1 x2 h = some q) : px_Con (d + 3) 181 [.inr (.inl 51), .inl x1, .inl x2] h q :=
  px_con (X := pX_RX11) (b := prog_13_method_9_code) (nL := 3) (rt := (some .boolean)) rfl rfl (Nat.le_of_ble_eq_true rfl) rfl (px_blk_ok (d := d + 2) (M := (pX_RX11, prog_13_method_9_code, 3, (some .boolean))) (C := mo_areTwo_orc) (code := mo_areTwo_code) (ld := [25, 26]) (kl := [(25, fun ls st h => px_if (px_fit [0, 0, 0] ls && px_fits [] st) (mo_areTwo_25 h)), (26, fun ls st h => px_if (px_fit [0, 0, 0] ls && px_fits [1] st) (mo_areTwo_26 (px_si st 0) h))]) (mo_areTwo_orc_ok) pX_ok_RX11 mo_areTwo_code_ok (px_k1 (px_ko (ts := [0, 0, 0]) (ss := []) fun ls st h q e => mo_areTwo_25_ok _ _ e) (px_k1 (px_ko (ts := [0, 0, 0]) (ss := [1]) fun ls st h q e => mo_areTwo_26_ok _ _ _ e) px_k0)) 20 0 _ _ _ q e)
/-! WordsUnsaidModel.isPlace(I)Z -/
noncomputable def mo_isPlace (x1 : Int32) (h : pH) : pR :=
  px_bind (mo_in x1 (px_c 0) ((px_c 1) + (h 51 2)) h) fun z1 h2 =>
  px_bz z1 h2
def mo_isPlace_code : pCode := [(0, .iload_n 1, 1), (1, .iconst 0, 1), (2, .iconst 1, 1), (3, .aload_n 0, 1), (4, .getfield 126, 3), (7, .iadd, 1), (8, .invokestatic 115, 3), (11, .ireturn, 1)]
set_option maxRecDepth 200000 in
theorem mo_isPlace_code_ok : px_code prog_13_method_10_code mo_isPlace_code = true := by decide +kernel
noncomputable def mo_isPlace_orc : pC := px_orc [(175, fun a h => match a with
    | [.inl v0, .inl v1, .inl v2] => mo_in v0 v1 v2 h
    | _ => none)]
theorem mo_isPlace_orc_ok {d : Nat} : px_Or (d + 1) (mo_isPlace_orc) := px_orc_ok (by
  refine px_o1 (fun a h q e => by
    dsimp only at e
    split at e
    · exact mo_in_ok (d := d + 0) e
    · cases e) ?_
  exact px_o0)
set_option maxRecDepth 200000 in
theorem mo_isPlace_ok {d : Nat} {x1 : Int32} {h : pH} {q : Int32 × pH} (e : mo_isPlace x1 h = some q) : px_Con (d + 2) 182 [.inr (.inl 51), .inl x1] h q :=
  px_con (X := pX_RX11) (b := prog_13_method_10_code) (nL := 2) (rt := (some .boolean)) rfl rfl (Nat.le_of_ble_eq_true rfl) rfl (px_blk_ok (d := d + 1) (M := (pX_RX11, prog_13_method_10_code, 2, (some .boolean))) (C := mo_isPlace_orc) (code := mo_isPlace_code) (ld := []) (kl := []) (mo_isPlace_orc_ok) pX_ok_RX11 mo_isPlace_code_ok (px_k0) 13 0 _ _ _ q e)
/-! WordsUnsaidModel.isBank(I)Z -/
noncomputable def mo_isBank (x0 : Int32) (h : pH) : pR :=
  px_bind (mo_in x0 (px_c 0) (px_c 1) h) fun z1 h2 =>
  px_bz z1 h2
def mo_isBank_code : pCode := [(0, .iload_n 0, 1), (1, .iconst 0, 1), (2, .iconst 1, 1), (3, .invokestatic 115, 3), (6, .ireturn, 1)]
set_option maxRecDepth 200000 in
theorem mo_isBank_code_ok : px_code prog_13_method_11_code mo_isBank_code = true := by decide +kernel
noncomputable def mo_isBank_orc : pC := px_orc [(175, fun a h => match a with
    | [.inl v0, .inl v1, .inl v2] => mo_in v0 v1 v2 h
    | _ => none)]
theorem mo_isBank_orc_ok {d : Nat} : px_Or (d + 1) (mo_isBank_orc) := px_orc_ok (by
  refine px_o1 (fun a h q e => by
    dsimp only at e
    split at e
    · exact mo_in_ok (d := d + 0) e
    · cases e) ?_
  exact px_o0)
set_option maxRecDepth 200000 in
theorem mo_isBank_ok {d : Nat} {x0 : Int32} {h : pH} {q : Int32 × pH} (e : mo_isBank x0 h = some q) : px_Con (d + 2) 183 [.inl x0] h q :=
  px_con (X := pX_RX11) (b := prog_13_method_11_code) (nL := 1) (rt := (some .boolean)) rfl rfl (Nat.le_of_ble_eq_true rfl) rfl (px_blk_ok (d := d + 1) (M := (pX_RX11, prog_13_method_11_code, 1, (some .boolean))) (C := mo_isBank_orc) (code := mo_isBank_code) (ld := []) (kl := []) (mo_isBank_orc_ok) pX_ok_RX11 mo_isBank_code_ok (px_k0) 10 0 _ _ _ q e)
/-! WordsUnsaidModel.yardOf(I)I -/
noncomputable def mo_yardOf_28 (s0 : Int32) (h : pH) : pR :=
  some (s0, h)
noncomputable def mo_yardOf (x1 : Int32) (h : pH) : pR :=
  if x1 = 0 then
    mo_yardOf_28 (px_c 0) h
  else
    if x1 = (px_c 1) then
      mo_yardOf_28 (h 51 1) h
    else
      px_if (px_ok 0 53 (x1 - (px_c 2))) <|
      mo_yardOf_28 (h 53 (x1 - (px_c 2)).toNatClampNeg) h
def mo_yardOf_code : pCode := [(0, .iload_n 1, 1), (1, .ifCond .ne (7), 3), (4, .iconst 0, 1), (5, .goto (23), 3), (8, .iload_n 1, 1), (9, .iconst 1, 1), (10, .if_icmp .ne (10), 3), (13, .aload_n 0, 1), (14, .getfield 13, 3), (17, .goto (11), 3), (20, .aload_n 0, 1), (21, .getfield 17, 3), (24, .iload_n 1, 1), (25, .iconst 2, 1), (26, .isub, 1), (27, .iaload, 1), (28, .ireturn, 1)]
set_option maxRecDepth 200000 in
theorem mo_yardOf_code_ok : px_code prog_13_method_12_code mo_yardOf_code = true := by decide +kernel
noncomputable def mo_yardOf_orc : pC := px_orc []
theorem mo_yardOf_orc_ok {d : Nat} : px_Or (d + 0) (mo_yardOf_orc) := px_orc_ok (by
  exact px_o0)
set_option maxRecDepth 200000 in
theorem mo_yardOf_28_ok {d : Nat} : ∀ (s0 : Int32) (h : pH) (q : Int32 × pH), mo_yardOf_28 s0 h = some q → px_G (d + 0 + 1) (pX_RX11, prog_13_method_12_code, 2, (some .int)) 28 [none, none] [.inl s0] h q := by
  intro s0 h q e
  exact px_blk_ok (d := d + 0) (M := (pX_RX11, prog_13_method_12_code, 2, (some .int))) (C := mo_yardOf_orc) (code := mo_yardOf_code) (ld := []) (kl := []) (mo_yardOf_orc_ok) pX_ok_RX11 mo_yardOf_code_ok (px_k0) 22 28 _ _ h q e
set_option maxRecDepth 200000 in
theorem mo_yardOf_ok {d : Nat} {x1 : Int32} {h : pH} {q : Int32 × pH} (e : mo_yardOf x1 h = some q) : px_Con (d + 1) 184 [.inr (.inl 51), .inl x1] h q :=
  px_con (X := pX_RX11) (b := prog_13_method_12_code) (nL := 2) (rt := (some .int)) rfl rfl (Nat.le_of_ble_eq_true rfl) rfl (px_blk_ok (d := d + 0) (M := (pX_RX11, prog_13_method_12_code, 2, (some .int))) (C := mo_yardOf_orc) (code := mo_yardOf_code) (ld := [28]) (kl := [(28, fun ls st h => px_if (px_fit [0, 0] ls && px_fits [1] st) (mo_yardOf_28 (px_si st 0) h))]) (mo_yardOf_orc_ok) pX_ok_RX11 mo_yardOf_code_ok (px_k1 (px_ko (ts := [0, 0]) (ss := [1]) fun ls st h q e => mo_yardOf_28_ok _ _ _ e) px_k0) 22 0 _ _ _ q e)
/-! WordsUnsaidModel.sign(I)I -/
noncomputable def mo_sign_47 (r20 : Int32 → Int32 → pH → pR) (x1 : Int32) (x2 : Int32) (h : pH) : pR :=
  r20 x1 (x2 + px_c (-1)) h
noncomputable def mo_sign_20 : Nat → Int32 → Int32 → pH → pR
  | 0, _, _, _ => none
  | n + 1, x1, x2, h =>
    if x2 < 0 then
      some (h 51 11, h)
    else
      let h1 := px_w h 51 11 ((h 51 11) + (px_c 1))
      px_if (px_ok 1 58 (h 51 11)) <|
      let h2 := px_w h1 58 (h 51 11).toNatClampNeg (px_nb (px_i2b (x1 >>> (((px_c 8) * x2) &&& 31))))
      mo_sign_47 (mo_sign_20 n) x1 x2 h2
noncomputable def mo_sign (x1 : Int32) (h : pH) : pR :=
  let h1 := px_w h 51 14 (px_c 0)
  if ((h1 51 11) + (px_c 4)) ≤ (px_c 80) then
    mo_sign_20 px_F x1 (px_c 3) h1
  else
    some (px_c (-1), h1)
def mo_sign_code : pCode := [(0, .aload_n 0, 1), (1, .iconst 0, 1), (2, .putfield 106, 3), (5, .aload_n 0, 1), (6, .getfield 129, 3), (9, .iconst 4, 1), (10, .iadd, 1), (11, .bipush (80), 2), (13, .if_icmp .le (5), 3), (16, .iconst (-1), 1), (17, .ireturn, 1), (18, .iconst 3, 1), (19, .istore_n 2, 1), (20, .iload_n 2, 1), (21, .ifCond .lt (32), 3), (24, .aload_n 0, 1), (25, .getfield 32, 3), (28, .aload_n 0, 1), (29, .dup, 1), (30, .getfield 129, 3), (33, .dup_x1, 1), (34, .iconst 1, 1), (35, .iadd, 1), (36, .putfield 129, 3), (39, .iload_n 1, 1), (40, .bipush (8), 2), (42, .iload_n 2, 1), (43, .imul, 1), (44, .ishr, 1), (45, .i2b, 1), (46, .bastore, 1), (47, .iinc 2 (-1), 3), (50, .goto (-30), 3), (53, .aload_n 0, 1), (54, .getfield 129, 3), (57, .ireturn, 1)]
set_option maxRecDepth 200000 in
theorem mo_sign_code_ok : px_code prog_13_method_13_code mo_sign_code = true := by decide +kernel
noncomputable def mo_sign_orc : pC := px_orc []
theorem mo_sign_orc_ok {d : Nat} : px_Or (d + 0) (mo_sign_orc) := px_orc_ok (by
  exact px_o0)
set_option maxRecDepth 200000 in
theorem mo_sign_47_ok {d : Nat} {r20 : Int32 → Int32 → pH → pR} (hr20 : ∀ (x1 : Int32) (x2 : Int32) (h : pH) (q : Int32 × pH), r20 x1 x2 h = some q → px_G (d + 0 + 1) (pX_RX11, prog_13_method_13_code, 3, (some .int)) 20 [some (.inr (.inl 51)), some (.inl x1), some (.inl x2)] [] h q) : ∀ (x1 : Int32) (x2 : Int32) (h : pH) (q : Int32 × pH), mo_sign_47 r20 x1 x2 h = some q → px_G (d + 0 + 1) (pX_RX11, prog_13_method_13_code, 3, (some .int)) 47 [some (.inr (.inl 51)), some (.inl x1), some (.inl x2)] [] h q := by
  intro x1 x2 h q e
  exact px_blk_ok (d := d + 0) (M := (pX_RX11, prog_13_method_13_code, 3, (some .int))) (C := mo_sign_orc) (code := mo_sign_code) (ld := [20]) (kl := [(20, fun ls st h => px_if (px_fit [61, 1, 1] ls && px_fits [] st) (r20 (px_gi ls 1) (px_gi ls 2) h))]) (mo_sign_orc_ok) pX_ok_RX11 mo_sign_code_ok (px_k1 (px_ko (ts := [61, 1, 1]) (ss := []) fun ls st h q e => hr20 _ _ _ _ e) px_k0) 41 47 _ _ h q e
set_option maxRecDepth 200000 in
theorem mo_sign_20_ok {d : Nat} : ∀ (n : Nat) (x1 : Int32) (x2 : Int32) (h : pH) (q : Int32 × pH), mo_sign_20 n x1 x2 h = some q → px_G (d + 0 + 1) (pX_RX11, prog_13_method_13_code, 3, (some .int)) 20 [some (.inr (.inl 51)), some (.inl x1), some (.inl x2)] [] h q := by
  intro n
  induction n with
  | zero =>
    intro x1 x2 h q e
    cases e
  | succ n ih =>
    intro x1 x2 h q e
    exact px_blk_ok (d := d + 0) (M := (pX_RX11, prog_13_method_13_code, 3, (some .int))) (C := mo_sign_orc) (code := mo_sign_code) (ld := [47]) (kl := [(47, fun ls st h => px_if (px_fit [61, 1, 1] ls && px_fits [] st) (mo_sign_47 (mo_sign_20 n) (px_gi ls 1) (px_gi ls 2) h))]) (mo_sign_orc_ok) pX_ok_RX11 mo_sign_code_ok (px_k1 (px_ko (ts := [61, 1, 1]) (ss := []) fun ls st h q e => mo_sign_47_ok ih _ _ _ _ e) px_k0) 41 20 _ _ h q e
set_option maxRecDepth 200000 in
theorem mo_sign_ok {d : Nat} {x1 : Int32} {h : pH} {q : Int32 × pH} (e : mo_sign x1 h = some q) : px_Con (d + 1) 185 [.inr (.inl 51), .inl x1] h q :=
  px_con (X := pX_RX11) (b := prog_13_method_13_code) (nL := 3) (rt := (some .int)) rfl rfl (Nat.le_of_ble_eq_true rfl) rfl (px_blk_ok (d := d + 0) (M := (pX_RX11, prog_13_method_13_code, 3, (some .int))) (C := mo_sign_orc) (code := mo_sign_code) (ld := [20]) (kl := [(20, fun ls st h => px_if (px_fit [61, 1, 1] ls && px_fits [] st) (mo_sign_20 px_F (px_gi ls 1) (px_gi ls 2) h))]) (mo_sign_orc_ok) pX_ok_RX11 mo_sign_code_ok (px_k1 (px_ko (ts := [61, 1, 1]) (ss := []) fun ls st h q e => mo_sign_20_ok _ _ _ _ _ e) px_k0) 41 0 _ _ _ q e)
/-! WordsUnsaidModel.end(I)Z -/
noncomputable def mo_end_24 (h : pH) : pR :=
  px_bz (px_c 1) h
noncomputable def mo_end (x1 : Int32) (h : pH) : pR :=
  let h1 := px_w h 51 14 (px_c 0)
  px_bind (mo_in x1 (px_c 0) (h1 51 11) h1) fun z2 h3 =>
  if z2 = 0 then
    px_bz (px_c 0) h3
  else
    let h4 := px_w h3 51 11 x1
    mo_end_24 h4
def mo_end_code : pCode := [(0, .aload_n 0, 1), (1, .iconst 0, 1), (2, .putfield 106, 3), (5, .iload_n 1, 1), (6, .iconst 0, 1), (7, .aload_n 0, 1), (8, .getfield 129, 3), (11, .invokestatic 115, 3), (14, .ifCond .ne (5), 3), (17, .iconst 0, 1), (18, .ireturn, 1), (19, .aload_n 0, 1), (20, .iload_n 1, 1), (21, .putfield 129, 3), (24, .iconst 1, 1), (25, .ireturn, 1)]
set_option maxRecDepth 200000 in
theorem mo_end_code_ok : px_code prog_13_method_14_code mo_end_code = true := by decide +kernel
noncomputable def mo_end_orc : pC := px_orc [(175, fun a h => match a with
    | [.inl v0, .inl v1, .inl v2] => mo_in v0 v1 v2 h
    | _ => none)]
theorem mo_end_orc_ok {d : Nat} : px_Or (d + 1) (mo_end_orc) := px_orc_ok (by
  refine px_o1 (fun a h q e => by
    dsimp only at e
    split at e
    · exact mo_in_ok (d := d + 0) e
    · cases e) ?_
  exact px_o0)
set_option maxRecDepth 200000 in
theorem mo_end_24_ok {d : Nat} : ∀ (h : pH) (q : Int32 × pH), mo_end_24 h = some q → px_G (d + 1 + 1) (pX_RX11, prog_13_method_14_code, 2, (some .boolean)) 24 [none, none] [] h q := by
  intro h q e
  exact px_blk_ok (d := d + 1) (M := (pX_RX11, prog_13_method_14_code, 2, (some .boolean))) (C := mo_end_orc) (code := mo_end_code) (ld := []) (kl := []) (mo_end_orc_ok) pX_ok_RX11 mo_end_code_ok (px_k0) 21 24 _ _ h q e
set_option maxRecDepth 200000 in
theorem mo_end_ok {d : Nat} {x1 : Int32} {h : pH} {q : Int32 × pH} (e : mo_end x1 h = some q) : px_Con (d + 2) 186 [.inr (.inl 51), .inl x1] h q :=
  px_con (X := pX_RX11) (b := prog_13_method_14_code) (nL := 2) (rt := (some .boolean)) rfl rfl (Nat.le_of_ble_eq_true rfl) rfl (px_blk_ok (d := d + 1) (M := (pX_RX11, prog_13_method_14_code, 2, (some .boolean))) (C := mo_end_orc) (code := mo_end_code) (ld := [24]) (kl := [(24, fun ls st h => px_if (px_fit [0, 0] ls && px_fits [] st) (mo_end_24 h))]) (mo_end_orc_ok) pX_ok_RX11 mo_end_code_ok (px_k1 (px_ko (ts := [0, 0]) (ss := []) fun ls st h q e => mo_end_24_ok _ _ e) px_k0) 21 0 _ _ _ q e)
/-! WordsUnsaidModel.begin([BII)V -/
noncomputable def mo_begin_20 (h : pH) : pR :=
  let h1 := px_w h 51 19 (px_c (-1))
  some (0, h1)
noncomputable def mo_begin_10 (x3 : Int32) (h : pH) : pR :=
  let h1 := px_w h 51 17 x3
  let h2 := px_w h1 51 18 (px_c 0)
  mo_begin_20 h2
noncomputable def mo_begin (a1 : Nat) (x2 : Int32) (x3 : Int32) (h : pH) : pR :=
  px_if (Nat.blt a1 px_N && Nat.beq (px_tag a1) 1) <|
  let h1 := px_w h 51 15 (nI a1)
  let h2 := px_w h1 51 16 x2
  mo_begin_10 x3 h2
def mo_begin_code : pCode := [(0, .aload_n 0, 1), (1, .aload_n 1, 1), (2, .putfield 132, 3), (5, .aload_n 0, 1), (6, .iload_n 2, 1), (7, .putfield 135, 3), (10, .aload_n 0, 1), (11, .iload_n 3, 1), (12, .putfield 138, 3), (15, .aload_n 0, 1), (16, .iconst 0, 1), (17, .putfield 141, 3), (20, .aload_n 0, 1), (21, .iconst (-1), 1), (22, .putfield 144, 3), (25, .return_, 1)]
set_option maxRecDepth 200000 in
theorem mo_begin_code_ok : px_code prog_13_method_15_code mo_begin_code = true := by decide +kernel
noncomputable def mo_begin_orc : pC := px_orc []
theorem mo_begin_orc_ok {d : Nat} : px_Or (d + 0) (mo_begin_orc) := px_orc_ok (by
  exact px_o0)
set_option maxRecDepth 200000 in
theorem mo_begin_20_ok {d : Nat} : ∀ (h : pH) (q : Int32 × pH), mo_begin_20 h = some q → px_G (d + 0 + 1) (pX_RX11, prog_13_method_15_code, 4, none) 20 [some (.inr (.inl 51)), none, none, none] [] h q := by
  intro h q e
  exact px_blk_ok (d := d + 0) (M := (pX_RX11, prog_13_method_15_code, 4, none)) (C := mo_begin_orc) (code := mo_begin_code) (ld := []) (kl := []) (mo_begin_orc_ok) pX_ok_RX11 mo_begin_code_ok (px_k0) 21 20 _ _ h q e
set_option maxRecDepth 200000 in
theorem mo_begin_10_ok {d : Nat} : ∀ (x3 : Int32) (h : pH) (q : Int32 × pH), mo_begin_10 x3 h = some q → px_G (d + 0 + 1) (pX_RX11, prog_13_method_15_code, 4, none) 10 [some (.inr (.inl 51)), none, none, some (.inl x3)] [] h q := by
  intro x3 h q e
  exact px_blk_ok (d := d + 0) (M := (pX_RX11, prog_13_method_15_code, 4, none)) (C := mo_begin_orc) (code := mo_begin_code) (ld := [20]) (kl := [(20, fun ls st h => px_if (px_fit [61, 0, 0, 0] ls && px_fits [] st) (mo_begin_20 h))]) (mo_begin_orc_ok) pX_ok_RX11 mo_begin_code_ok (px_k1 (px_ko (ts := [61, 0, 0, 0]) (ss := []) fun ls st h q e => mo_begin_20_ok _ _ e) px_k0) 21 10 _ _ h q e
set_option maxRecDepth 200000 in
theorem mo_begin_ok {d : Nat} {a1 : Nat} {x2 : Int32} {x3 : Int32} {h : pH} {q : Int32 × pH} (e : mo_begin a1 x2 x3 h = some q) : px_Con (d + 1) 187 [.inr (.inl 51), .inr (.inl a1), .inl x2, .inl x3] h q :=
  px_con (X := pX_RX11) (b := prog_13_method_15_code) (nL := 4) (rt := none) rfl rfl (Nat.le_of_ble_eq_true rfl) rfl (px_blk_ok (d := d + 0) (M := (pX_RX11, prog_13_method_15_code, 4, none)) (C := mo_begin_orc) (code := mo_begin_code) (ld := [10]) (kl := [(10, fun ls st h => px_if (px_fit [61, 0, 0, 1] ls && px_fits [] st) (mo_begin_10 (px_gi ls 3) h))]) (mo_begin_orc_ok) pX_ok_RX11 mo_begin_code_ok (px_k1 (px_ko (ts := [61, 0, 0, 1]) (ss := []) fun ls st h q e => mo_begin_10_ok _ _ _ e) px_k0) 21 0 _ _ _ q e)
/-! WordsUnsaidModel.here()I -/
noncomputable def mo_here_39 (s0 : Int32) (h : pH) : pR :=
  some (s0, h)
noncomputable def mo_here_38 (h : pH) : pR :=
  mo_here_39 (px_c (-1)) h
noncomputable def mo_here (h : pH) : pR :=
  if (h 51 16) ≤ (h 51 18) then
    mo_here_38 h
  else
    if (h 51 17) ≤ (h 51 18) then
      mo_here_38 h
    else
      px_if (decide (0 ≤ h 51 15) && Nat.blt (h 51 15).toNatClampNeg px_N) <|
      px_if (px_ok 1 ((h 51 15).toNatClampNeg) (h 51 18) || px_ok 3 ((h 51 15).toNatClampNeg) (h 51 18)) <|
      mo_here_39 ((h ((h 51 15).toNatClampNeg) (h 51 18).toNatClampNeg) &&& (px_c 255)) h
def mo_here_code : pCode := [(0, .aload_n 0, 1), (1, .getfield 141, 3), (4, .aload_n 0, 1), (5, .getfield 135, 3), (8, .if_icmp .ge (30), 3), (11, .aload_n 0, 1), (12, .getfield 141, 3), (15, .aload_n 0, 1), (16, .getfield 138, 3), (19, .if_icmp .ge (19), 3), (22, .aload_n 0, 1), (23, .getfield 132, 3), (26, .aload_n 0, 1), (27, .getfield 141, 3), (30, .baload, 1), (31, .sipush (255), 3), (34, .iand, 1), (35, .goto (4), 3), (38, .iconst (-1), 1), (39, .ireturn, 1)]
set_option maxRecDepth 200000 in
theorem mo_here_code_ok : px_code prog_13_method_16_code mo_here_code = true := by decide +kernel
noncomputable def mo_here_orc : pC := px_orc []
theorem mo_here_orc_ok {d : Nat} : px_Or (d + 0) (mo_here_orc) := px_orc_ok (by
  exact px_o0)
set_option maxRecDepth 200000 in
theorem mo_here_39_ok {d : Nat} : ∀ (s0 : Int32) (h : pH) (q : Int32 × pH), mo_here_39 s0 h = some q → px_G (d + 0 + 1) (pX_RX11, prog_13_method_16_code, 1, (some .int)) 39 [none] [.inl s0] h q := by
  intro s0 h q e
  exact px_blk_ok (d := d + 0) (M := (pX_RX11, prog_13_method_16_code, 1, (some .int))) (C := mo_here_orc) (code := mo_here_code) (ld := []) (kl := []) (mo_here_orc_ok) pX_ok_RX11 mo_here_code_ok (px_k0) 25 39 _ _ h q e
set_option maxRecDepth 200000 in
theorem mo_here_38_ok {d : Nat} : ∀ (h : pH) (q : Int32 × pH), mo_here_38 h = some q → px_G (d + 0 + 1) (pX_RX11, prog_13_method_16_code, 1, (some .int)) 38 [none] [] h q := by
  intro h q e
  exact px_blk_ok (d := d + 0) (M := (pX_RX11, prog_13_method_16_code, 1, (some .int))) (C := mo_here_orc) (code := mo_here_code) (ld := [39]) (kl := [(39, fun ls st h => px_if (px_fit [0] ls && px_fits [1] st) (mo_here_39 (px_si st 0) h))]) (mo_here_orc_ok) pX_ok_RX11 mo_here_code_ok (px_k1 (px_ko (ts := [0]) (ss := [1]) fun ls st h q e => mo_here_39_ok _ _ _ e) px_k0) 25 38 _ _ h q e
set_option maxRecDepth 200000 in
theorem mo_here_ok {d : Nat} {h : pH} {q : Int32 × pH} (e : mo_here h = some q) : px_Con (d + 1) 188 [.inr (.inl 51)] h q :=
  px_con (X := pX_RX11) (b := prog_13_method_16_code) (nL := 1) (rt := (some .int)) rfl rfl (Nat.le_of_ble_eq_true rfl) rfl (px_blk_ok (d := d + 0) (M := (pX_RX11, prog_13_method_16_code, 1, (some .int))) (C := mo_here_orc) (code := mo_here_code) (ld := [38, 39]) (kl := [(38, fun ls st h => px_if (px_fit [0] ls && px_fits [] st) (mo_here_38 h)), (39, fun ls st h => px_if (px_fit [0] ls && px_fits [1] st) (mo_here_39 (px_si st 0) h))]) (mo_here_orc_ok) pX_ok_RX11 mo_here_code_ok (px_k1 (px_ko (ts := [0]) (ss := []) fun ls st h q e => mo_here_38_ok _ _ e) (px_k1 (px_ko (ts := [0]) (ss := [1]) fun ls st h q e => mo_here_39_ok _ _ _ e) px_k0)) 25 0 _ _ _ q e)
/-! WordsUnsaidModel.fine()Z -/
noncomputable def mo_fine_13 (s0 : Int32) (h : pH) : pR :=
  px_bz s0 h
noncomputable def mo_fine (h : pH) : pR :=
  if (h 51 19) = (px_c (-1)) then
    mo_fine_13 (px_c 1) h
  else
    mo_fine_13 (px_c 0) h
def mo_fine_code : pCode := [(0, .aload_n 0, 1), (1, .getfield 144, 3), (4, .iconst (-1), 1), (5, .if_icmp .ne (7), 3), (8, .iconst 1, 1), (9, .goto (4), 3), (12, .iconst 0, 1), (13, .ireturn, 1)]
set_option maxRecDepth 200000 in
theorem mo_fine_code_ok : px_code prog_13_method_17_code mo_fine_code = true := by decide +kernel
noncomputable def mo_fine_orc : pC := px_orc []
theorem mo_fine_orc_ok {d : Nat} : px_Or (d + 0) (mo_fine_orc) := px_orc_ok (by
  exact px_o0)
set_option maxRecDepth 200000 in
theorem mo_fine_13_ok {d : Nat} : ∀ (s0 : Int32) (h : pH) (q : Int32 × pH), mo_fine_13 s0 h = some q → px_G (d + 0 + 1) (pX_RX11, prog_13_method_17_code, 1, (some .boolean)) 13 [none] [.inl s0] h q := by
  intro s0 h q e
  exact px_blk_ok (d := d + 0) (M := (pX_RX11, prog_13_method_17_code, 1, (some .boolean))) (C := mo_fine_orc) (code := mo_fine_code) (ld := []) (kl := []) (mo_fine_orc_ok) pX_ok_RX11 mo_fine_code_ok (px_k0) 13 13 _ _ h q e
set_option maxRecDepth 200000 in
theorem mo_fine_ok {d : Nat} {h : pH} {q : Int32 × pH} (e : mo_fine h = some q) : px_Con (d + 1) 189 [.inr (.inl 51)] h q :=
  px_con (X := pX_RX11) (b := prog_13_method_17_code) (nL := 1) (rt := (some .boolean)) rfl rfl (Nat.le_of_ble_eq_true rfl) rfl (px_blk_ok (d := d + 0) (M := (pX_RX11, prog_13_method_17_code, 1, (some .boolean))) (C := mo_fine_orc) (code := mo_fine_code) (ld := [13]) (kl := [(13, fun ls st h => px_if (px_fit [0] ls && px_fits [1] st) (mo_fine_13 (px_si st 0) h))]) (mo_fine_orc_ok) pX_ok_RX11 mo_fine_code_ok (px_k1 (px_ko (ts := [0]) (ss := [1]) fun ls st h q e => mo_fine_13_ok _ _ _ e) px_k0) 13 0 _ _ _ q e)
/-! WordsUnsaidModel.fault(I)V -/
noncomputable def mo_fault_12 (h : pH) : pR :=
  some (0, h)
noncomputable def mo_fault (x1 : Int32) (h : pH) : pR :=
  px_bind (mo_fine h) fun z1 h2 =>
  if z1 = 0 then
    mo_fault_12 h2
  else
    let h3 := px_w h2 51 19 x1
    mo_fault_12 h3
def mo_fault_code : pCode := [(0, .aload_n 0, 1), (1, .invokevirtual 147, 3), (4, .ifCond .eq (8), 3), (7, .aload_n 0, 1), (8, .iload_n 1, 1), (9, .putfield 144, 3), (12, .return_, 1)]
set_option maxRecDepth 200000 in
theorem mo_fault_code_ok : px_code prog_13_method_18_code mo_fault_code = true := by decide +kernel
noncomputable def mo_fault_orc : pC := px_orc [(189, fun a h => match a with
    | [.inr (.inl 51)] => mo_fine h
    | _ => none)]
theorem mo_fault_orc_ok {d : Nat} : px_Or (d + 1) (mo_fault_orc) := px_orc_ok (by
  refine px_o1 (fun a h q e => by
    dsimp only at e
    split at e
    · exact mo_fine_ok (d := d + 0) e
    · cases e) ?_
  exact px_o0)
set_option maxRecDepth 200000 in
theorem mo_fault_12_ok {d : Nat} : ∀ (h : pH) (q : Int32 × pH), mo_fault_12 h = some q → px_G (d + 1 + 1) (pX_RX11, prog_13_method_18_code, 2, none) 12 [none, none] [] h q := by
  intro h q e
  exact px_blk_ok (d := d + 1) (M := (pX_RX11, prog_13_method_18_code, 2, none)) (C := mo_fault_orc) (code := mo_fault_code) (ld := []) (kl := []) (mo_fault_orc_ok) pX_ok_RX11 mo_fault_code_ok (px_k0) 12 12 _ _ h q e
set_option maxRecDepth 200000 in
theorem mo_fault_ok {d : Nat} {x1 : Int32} {h : pH} {q : Int32 × pH} (e : mo_fault x1 h = some q) : px_Con (d + 2) 190 [.inr (.inl 51), .inl x1] h q :=
  px_con (X := pX_RX11) (b := prog_13_method_18_code) (nL := 2) (rt := none) rfl rfl (Nat.le_of_ble_eq_true rfl) rfl (px_blk_ok (d := d + 1) (M := (pX_RX11, prog_13_method_18_code, 2, none)) (C := mo_fault_orc) (code := mo_fault_code) (ld := [12]) (kl := [(12, fun ls st h => px_if (px_fit [0, 0] ls && px_fits [] st) (mo_fault_12 h))]) (mo_fault_orc_ok) pX_ok_RX11 mo_fault_code_ok (px_k1 (px_ko (ts := [0, 0]) (ss := []) fun ls st h q e => mo_fault_12_ok _ _ e) px_k0) 12 0 _ _ _ q e)
/-! WordsUnsaidModel.passes(C)Z -/
noncomputable def mo_passes_15 (h : pH) : pR :=
  px_bz (px_c 0) h
noncomputable def mo_passes (x1 : Int32) (h : pH) : pR :=
  px_bind (mo_fine h) fun z1 h2 =>
  if z1 = 0 then
    mo_passes_15 h2
  else
    px_bind (mo_here h2) fun z3 h4 =>
    if z3 = x1 then
      let h5 := px_w h4 51 18 ((h4 51 18) + (px_c 1))
      px_bz (px_c 1) h5
    else
      mo_passes_15 h4
def mo_passes_code : pCode := [(0, .aload_n 0, 1), (1, .invokevirtual 147, 3), (4, .ifCond .eq (11), 3), (7, .aload_n 0, 1), (8, .invokevirtual 151, 3), (11, .iload_n 1, 1), (12, .if_icmp .eq (5), 3), (15, .iconst 0, 1), (16, .ireturn, 1), (17, .aload_n 0, 1), (18, .dup, 1), (19, .getfield 141, 3), (22, .iconst 1, 1), (23, .iadd, 1), (24, .putfield 141, 3), (27, .iconst 1, 1), (28, .ireturn, 1)]
set_option maxRecDepth 200000 in
theorem mo_passes_code_ok : px_code prog_13_method_19_code mo_passes_code = true := by decide +kernel
noncomputable def mo_passes_orc : pC := px_orc [(189, fun a h => match a with
    | [.inr (.inl 51)] => mo_fine h
    | _ => none), (188, fun a h => match a with
    | [.inr (.inl 51)] => mo_here h
    | _ => none)]
theorem mo_passes_orc_ok {d : Nat} : px_Or (d + 1) (mo_passes_orc) := px_orc_ok (by
  refine px_o1 (fun a h q e => by
    dsimp only at e
    split at e
    · exact mo_fine_ok (d := d + 0) e
    · cases e) ?_
  refine px_o1 (fun a h q e => by
    dsimp only at e
    split at e
    · exact mo_here_ok (d := d + 0) e
    · cases e) ?_
  exact px_o0)
set_option maxRecDepth 200000 in
theorem mo_passes_15_ok {d : Nat} : ∀ (h : pH) (q : Int32 × pH), mo_passes_15 h = some q → px_G (d + 1 + 1) (pX_RX11, prog_13_method_19_code, 2, (some .boolean)) 15 [none, none] [] h q := by
  intro h q e
  exact px_blk_ok (d := d + 1) (M := (pX_RX11, prog_13_method_19_code, 2, (some .boolean))) (C := mo_passes_orc) (code := mo_passes_code) (ld := []) (kl := []) (mo_passes_orc_ok) pX_ok_RX11 mo_passes_code_ok (px_k0) 22 15 _ _ h q e
set_option maxRecDepth 200000 in
theorem mo_passes_ok {d : Nat} {x1 : Int32} {h : pH} {q : Int32 × pH} (e : mo_passes x1 h = some q) : px_Con (d + 2) 191 [.inr (.inl 51), .inl x1] h q :=
  px_con (X := pX_RX11) (b := prog_13_method_19_code) (nL := 2) (rt := (some .boolean)) rfl rfl (Nat.le_of_ble_eq_true rfl) rfl (px_blk_ok (d := d + 1) (M := (pX_RX11, prog_13_method_19_code, 2, (some .boolean))) (C := mo_passes_orc) (code := mo_passes_code) (ld := [15]) (kl := [(15, fun ls st h => px_if (px_fit [0, 0] ls && px_fits [] st) (mo_passes_15 h))]) (mo_passes_orc_ok) pX_ok_RX11 mo_passes_code_ok (px_k1 (px_ko (ts := [0, 0]) (ss := []) fun ls st h q e => mo_passes_15_ok _ _ e) px_k0) 22 0 _ _ _ q e)
/-! WordsUnsaidModel.need(C)V -/
noncomputable def mo_need_16 (h : pH) : pR :=
  some (0, h)
noncomputable def mo_need (x1 : Int32) (h : pH) : pR :=
  px_bind (mo_passes x1 h) fun z1 h2 =>
  if z1 = 0 then
    px_bind (mo_fault (h2 51 18) h2) fun _ h4 =>
    mo_need_16 h4
  else
    mo_need_16 h2
def mo_need_code : pCode := [(0, .aload_n 0, 1), (1, .iload_n 1, 1), (2, .invokevirtual 155, 3), (5, .ifCond .ne (11), 3), (8, .aload_n 0, 1), (9, .aload_n 0, 1), (10, .getfield 141, 3), (13, .invokevirtual 159, 3), (16, .return_, 1)]
set_option maxRecDepth 200000 in
theorem mo_need_code_ok : px_code prog_13_method_20_code mo_need_code = true := by decide +kernel
noncomputable def mo_need_orc : pC := px_orc [(191, fun a h => match a with
    | [.inr (.inl 51), .inl v1] => mo_passes v1 h
    | _ => none), (190, fun a h => match a with
    | [.inr (.inl 51), .inl v1] => mo_fault v1 h
    | _ => none)]
theorem mo_need_orc_ok {d : Nat} : px_Or (d + 2) (mo_need_orc) := px_orc_ok (by
  refine px_o1 (fun a h q e => by
    dsimp only at e
    split at e
    · exact mo_passes_ok (d := d + 0) e
    · cases e) ?_
  refine px_o1 (fun a h q e => by
    dsimp only at e
    split at e
    · exact mo_fault_ok (d := d + 0) e
    · cases e) ?_
  exact px_o0)
set_option maxRecDepth 200000 in
theorem mo_need_16_ok {d : Nat} : ∀ (h : pH) (q : Int32 × pH), mo_need_16 h = some q → px_G (d + 2 + 1) (pX_RX11, prog_13_method_20_code, 2, none) 16 [none, none] [] h q := by
  intro h q e
  exact px_blk_ok (d := d + 2) (M := (pX_RX11, prog_13_method_20_code, 2, none)) (C := mo_need_orc) (code := mo_need_code) (ld := []) (kl := []) (mo_need_orc_ok) pX_ok_RX11 mo_need_code_ok (px_k0) 14 16 _ _ h q e
set_option maxRecDepth 200000 in
theorem mo_need_ok {d : Nat} {x1 : Int32} {h : pH} {q : Int32 × pH} (e : mo_need x1 h = some q) : px_Con (d + 3) 192 [.inr (.inl 51), .inl x1] h q :=
  px_con (X := pX_RX11) (b := prog_13_method_20_code) (nL := 2) (rt := none) rfl rfl (Nat.le_of_ble_eq_true rfl) rfl (px_blk_ok (d := d + 2) (M := (pX_RX11, prog_13_method_20_code, 2, none)) (C := mo_need_orc) (code := mo_need_code) (ld := [16]) (kl := [(16, fun ls st h => px_if (px_fit [0, 0] ls && px_fits [] st) (mo_need_16 h))]) (mo_need_orc_ok) pX_ok_RX11 mo_need_code_ok (px_k1 (px_ko (ts := [0, 0]) (ss := []) fun ls st h q e => mo_need_16_ok _ _ e) px_k0) 14 0 _ _ _ q e)
/-! WordsUnsaidModel.digit(II)I -/
noncomputable def mo_digit (x1 : Int32) (x2 : Int32) (h : pH) : pR :=
  px_bind (mo_fine h) fun z1 h2 =>
  if z1 = 0 then
    some (px_c 0, h2)
  else
    px_bind (mo_here h2) fun z3 h4 =>
    px_bind (mo_in z3 ((px_c 48) + x1) ((px_c 48) + x2) h4) fun z5 h6 =>
    if z5 = 0 then
      px_bind (mo_fault (h6 51 18) h6) fun _ h8 =>
      some (px_c 0, h8)
    else
      let h9 := px_w h6 51 18 ((h6 51 18) + (px_c 1))
      px_if (decide (0 ≤ h9 51 15) && Nat.blt (h9 51 15).toNatClampNeg px_N) <|
      px_if (px_ok 1 ((h9 51 15).toNatClampNeg) ((h9 51 18) - (px_c 1)) || px_ok 3 ((h9 51 15).toNatClampNeg) ((h9 51 18) - (px_c 1))) <|
      some ((h9 ((h9 51 15).toNatClampNeg) ((h9 51 18) - (px_c 1)).toNatClampNeg) - (px_c 48), h9)
def mo_digit_code : pCode := [(0, .aload_n 0, 1), (1, .invokevirtual 147, 3), (4, .ifCond .ne (5), 3), (7, .iconst 0, 1), (8, .ireturn, 1), (9, .aload_n 0, 1), (10, .invokevirtual 151, 3), (13, .bipush (48), 2), (15, .iload_n 1, 1), (16, .iadd, 1), (17, .bipush (48), 2), (19, .iload_n 2, 1), (20, .iadd, 1), (21, .invokestatic 115, 3), (24, .ifCond .ne (13), 3), (27, .aload_n 0, 1), (28, .aload_n 0, 1), (29, .getfield 141, 3), (32, .invokevirtual 159, 3), (35, .iconst 0, 1), (36, .ireturn, 1), (37, .aload_n 0, 1), (38, .dup, 1), (39, .getfield 141, 3), (42, .iconst 1, 1), (43, .iadd, 1), (44, .putfield 141, 3), (47, .aload_n 0, 1), (48, .getfield 132, 3), (51, .aload_n 0, 1), (52, .getfield 141, 3), (55, .iconst 1, 1), (56, .isub, 1), (57, .baload, 1), (58, .bipush (48), 2), (60, .isub, 1), (61, .ireturn, 1)]
set_option maxRecDepth 200000 in
theorem mo_digit_code_ok : px_code prog_13_method_21_code mo_digit_code = true := by decide +kernel
noncomputable def mo_digit_orc : pC := px_orc [(189, fun a h => match a with
    | [.inr (.inl 51)] => mo_fine h
    | _ => none), (188, fun a h => match a with
    | [.inr (.inl 51)] => mo_here h
    | _ => none), (175, fun a h => match a with
    | [.inl v0, .inl v1, .inl v2] => mo_in v0 v1 v2 h
    | _ => none), (190, fun a h => match a with
    | [.inr (.inl 51), .inl v1] => mo_fault v1 h
    | _ => none)]
theorem mo_digit_orc_ok {d : Nat} : px_Or (d + 2) (mo_digit_orc) := px_orc_ok (by
  refine px_o1 (fun a h q e => by
    dsimp only at e
    split at e
    · exact mo_fine_ok (d := d + 1) e
    · cases e) ?_
  refine px_o1 (fun a h q e => by
    dsimp only at e
    split at e
    · exact mo_here_ok (d := d + 1) e
    · cases e) ?_
  refine px_o1 (fun a h q e => by
    dsimp only at e
    split at e
    · exact mo_in_ok (d := d + 1) e
    · cases e) ?_
  refine px_o1 (fun a h q e => by
    dsimp only at e
    split at e
    · exact mo_fault_ok (d := d + 0) e
    · cases e) ?_
  exact px_o0)
set_option maxRecDepth 200000 in
theorem mo_digit_ok {d : Nat} {x1 : Int32} {x2 : Int32} {h : pH} {q : Int32 × pH} (e : mo_digit x1 x2 h = some q) : px_Con (d + 3) 193 [.inr (.inl 51), .inl x1, .inl x2] h q :=
  px_con (X := pX_RX11) (b := prog_13_method_21_code) (nL := 3) (rt := (some .int)) rfl rfl (Nat.le_of_ble_eq_true rfl) rfl (px_blk_ok (d := d + 2) (M := (pX_RX11, prog_13_method_21_code, 3, (some .int))) (C := mo_digit_orc) (code := mo_digit_code) (ld := []) (kl := []) (mo_digit_orc_ok) pX_ok_RX11 mo_digit_code_ok (px_k0) 42 0 _ _ _ q e)
/-! WordsUnsaidModel.number(I)I -/
noncomputable def mo_number_55 (x2 : Int32) (h : pH) : pR :=
  some (x2, h)
noncomputable def mo_number_10 : Nat → Int32 → Int32 → Int32 → pH → pR
  | 0, _, _, _, _ => none
  | n + 1, x1, x2, x3, h =>
    if x1 ≤ x3 then
      mo_number_55 x2 h
    else
      px_bind (mo_fine h) fun z1 h2 =>
      if z1 = 0 then
        mo_number_55 x2 h2
      else
        px_bind (mo_here h2) fun z3 h4 =>
        px_bind (mo_in z3 (px_c 48) (px_c 57) h4) fun z5 h6 =>
        if z5 = 0 then
          mo_number_55 x2 h6
        else
          px_bind (mo_digit (px_c 0) (px_c 9) h6) fun z7 h8 =>
          let y2_9 := ((px_c 10) * x2) + z7
          mo_number_10 n x1 y2_9 (x3 + px_c 1) h8
noncomputable def mo_number (x1 : Int32) (h : pH) : pR :=
  px_bind (mo_digit (px_c 0) (px_c 9) h) fun z1 h2 =>
  mo_number_10 px_F x1 z1 (px_c 1) h2
def mo_number_code : pCode := [(0, .aload_n 0, 1), (1, .iconst 0, 1), (2, .bipush (9), 2), (4, .invokevirtual 163, 3), (7, .istore_n 2, 1), (8, .iconst 1, 1), (9, .istore_n 3, 1), (10, .iload_n 3, 1), (11, .iload_n 1, 1), (12, .if_icmp .ge (43), 3), (15, .aload_n 0, 1), (16, .invokevirtual 147, 3), (19, .ifCond .eq (36), 3), (22, .aload_n 0, 1), (23, .invokevirtual 151, 3), (26, .bipush (48), 2), (28, .bipush (57), 2), (30, .invokestatic 115, 3), (33, .ifCond .eq (22), 3), (36, .bipush (10), 2), (38, .iload_n 2, 1), (39, .imul, 1), (40, .aload_n 0, 1), (41, .iconst 0, 1), (42, .bipush (9), 2), (44, .invokevirtual 163, 3), (47, .iadd, 1), (48, .istore_n 2, 1), (49, .iinc 3 (1), 3), (52, .goto (-42), 3), (55, .iload_n 2, 1), (56, .ireturn, 1)]
set_option maxRecDepth 200000 in
theorem mo_number_code_ok : px_code prog_13_method_22_code mo_number_code = true := by decide +kernel
noncomputable def mo_number_orc : pC := px_orc [(189, fun a h => match a with
    | [.inr (.inl 51)] => mo_fine h
    | _ => none), (188, fun a h => match a with
    | [.inr (.inl 51)] => mo_here h
    | _ => none), (175, fun a h => match a with
    | [.inl v0, .inl v1, .inl v2] => mo_in v0 v1 v2 h
    | _ => none), (193, fun a h => match a with
    | [.inr (.inl 51), .inl v1, .inl v2] => mo_digit v1 v2 h
    | _ => none)]
theorem mo_number_orc_ok {d : Nat} : px_Or (d + 3) (mo_number_orc) := px_orc_ok (by
  refine px_o1 (fun a h q e => by
    dsimp only at e
    split at e
    · exact mo_fine_ok (d := d + 2) e
    · cases e) ?_
  refine px_o1 (fun a h q e => by
    dsimp only at e
    split at e
    · exact mo_here_ok (d := d + 2) e
    · cases e) ?_
  refine px_o1 (fun a h q e => by
    dsimp only at e
    split at e
    · exact mo_in_ok (d := d + 2) e
    · cases e) ?_
  refine px_o1 (fun a h q e => by
    dsimp only at e
    split at e
    · exact mo_digit_ok (d := d + 0) e
    · cases e) ?_
  exact px_o0)
set_option maxRecDepth 200000 in
theorem mo_number_55_ok {d : Nat} : ∀ (x2 : Int32) (h : pH) (q : Int32 × pH), mo_number_55 x2 h = some q → px_G (d + 3 + 1) (pX_RX11, prog_13_method_22_code, 4, (some .int)) 55 [none, none, some (.inl x2), none] [] h q := by
  intro x2 h q e
  exact px_blk_ok (d := d + 3) (M := (pX_RX11, prog_13_method_22_code, 4, (some .int))) (C := mo_number_orc) (code := mo_number_code) (ld := []) (kl := []) (mo_number_orc_ok) pX_ok_RX11 mo_number_code_ok (px_k0) 37 55 _ _ h q e
set_option maxRecDepth 200000 in
theorem mo_number_10_ok {d : Nat} : ∀ (n : Nat) (x1 : Int32) (x2 : Int32) (x3 : Int32) (h : pH) (q : Int32 × pH), mo_number_10 n x1 x2 x3 h = some q → px_G (d + 3 + 1) (pX_RX11, prog_13_method_22_code, 4, (some .int)) 10 [some (.inr (.inl 51)), some (.inl x1), some (.inl x2), some (.inl x3)] [] h q := by
  intro n
  induction n with
  | zero =>
    intro x1 x2 x3 h q e
    cases e
  | succ n ih =>
    intro x1 x2 x3 h q e
    exact px_blk_ok (d := d + 3) (M := (pX_RX11, prog_13_method_22_code, 4, (some .int))) (C := mo_number_orc) (code := mo_number_code) (ld := [10, 55]) (kl := [(10, fun ls st h => px_if (px_fit [61, 1, 1, 1] ls && px_fits [] st) (mo_number_10 n (px_gi ls 1) (px_gi ls 2) (px_gi ls 3) h)), (55, fun ls st h => px_if (px_fit [0, 0, 1, 0] ls && px_fits [] st) (mo_number_55 (px_gi ls 2) h))]) (mo_number_orc_ok) pX_ok_RX11 mo_number_code_ok (px_k1 (px_ko (ts := [61, 1, 1, 1]) (ss := []) fun ls st h q e => ih _ _ _ _ _ e) (px_k1 (px_ko (ts := [0, 0, 1, 0]) (ss := []) fun ls st h q e => mo_number_55_ok _ _ _ e) px_k0)) 37 10 _ _ h q e
set_option maxRecDepth 200000 in
theorem mo_number_ok {d : Nat} {x1 : Int32} {h : pH} {q : Int32 × pH} (e : mo_number x1 h = some q) : px_Con (d + 4) 194 [.inr (.inl 51), .inl x1] h q :=
  px_con (X := pX_RX11) (b := prog_13_method_22_code) (nL := 4) (rt := (some .int)) rfl rfl (Nat.le_of_ble_eq_true rfl) rfl (px_blk_ok (d := d + 3) (M := (pX_RX11, prog_13_method_22_code, 4, (some .int))) (C := mo_number_orc) (code := mo_number_code) (ld := [10]) (kl := [(10, fun ls st h => px_if (px_fit [61, 1, 1, 1] ls && px_fits [] st) (mo_number_10 px_F (px_gi ls 1) (px_gi ls 2) (px_gi ls 3) h))]) (mo_number_orc_ok) pX_ok_RX11 mo_number_code_ok (px_k1 (px_ko (ts := [61, 1, 1, 1]) (ss := []) fun ls st h q e => mo_number_10_ok _ _ _ _ _ _ e) px_k0) 37 0 _ _ _ q e)
/-! WordsUnsaidModel.number(II)I -/
noncomputable def mo_number__32 (x3 : Int32) (h : pH) : pR :=
  some (x3, h)
noncomputable def mo_number_ (x1 : Int32) (x2 : Int32) (h : pH) : pR :=
  px_bind (mo_number (px_c 2) h) fun z1 h2 =>
  px_bind (mo_fine h2) fun z3 h4 =>
  if z3 = 0 then
    mo_number__32 z1 h4
  else
    px_bind (mo_in z1 x1 x2 h4) fun z5 h6 =>
    if z5 = 0 then
      px_bind (mo_fault ((h6 51 18) - (px_c 1)) h6) fun _ h8 =>
      mo_number__32 z1 h8
    else
      mo_number__32 z1 h6
def mo_number__code : pCode := [(0, .aload_n 0, 1), (1, .iconst 2, 1), (2, .invokevirtual 167, 3), (5, .istore_n 3, 1), (6, .aload_n 0, 1), (7, .invokevirtual 147, 3), (10, .ifCond .eq (22), 3), (13, .iload_n 3, 1), (14, .iload_n 1, 1), (15, .iload_n 2, 1), (16, .invokestatic 115, 3), (19, .ifCond .ne (13), 3), (22, .aload_n 0, 1), (23, .aload_n 0, 1), (24, .getfield 141, 3), (27, .iconst 1, 1), (28, .isub, 1), (29, .invokevirtual 159, 3), (32, .iload_n 3, 1), (33, .ireturn, 1)]
set_option maxRecDepth 200000 in
theorem mo_number__code_ok : px_code prog_13_method_23_code mo_number__code = true := by decide +kernel
noncomputable def mo_number__orc : pC := px_orc [(194, fun a h => match a with
    | [.inr (.inl 51), .inl v1] => mo_number v1 h
    | _ => none), (189, fun a h => match a with
    | [.inr (.inl 51)] => mo_fine h
    | _ => none), (175, fun a h => match a with
    | [.inl v0, .inl v1, .inl v2] => mo_in v0 v1 v2 h
    | _ => none), (190, fun a h => match a with
    | [.inr (.inl 51), .inl v1] => mo_fault v1 h
    | _ => none)]
theorem mo_number__orc_ok {d : Nat} : px_Or (d + 4) (mo_number__orc) := px_orc_ok (by
  refine px_o1 (fun a h q e => by
    dsimp only at e
    split at e
    · exact mo_number_ok (d := d + 0) e
    · cases e) ?_
  refine px_o1 (fun a h q e => by
    dsimp only at e
    split at e
    · exact mo_fine_ok (d := d + 3) e
    · cases e) ?_
  refine px_o1 (fun a h q e => by
    dsimp only at e
    split at e
    · exact mo_in_ok (d := d + 3) e
    · cases e) ?_
  refine px_o1 (fun a h q e => by
    dsimp only at e
    split at e
    · exact mo_fault_ok (d := d + 2) e
    · cases e) ?_
  exact px_o0)
set_option maxRecDepth 200000 in
theorem mo_number__32_ok {d : Nat} : ∀ (x3 : Int32) (h : pH) (q : Int32 × pH), mo_number__32 x3 h = some q → px_G (d + 4 + 1) (pX_RX11, prog_13_method_23_code, 4, (some .int)) 32 [none, none, none, some (.inl x3)] [] h q := by
  intro x3 h q e
  exact px_blk_ok (d := d + 4) (M := (pX_RX11, prog_13_method_23_code, 4, (some .int))) (C := mo_number__orc) (code := mo_number__code) (ld := []) (kl := []) (mo_number__orc_ok) pX_ok_RX11 mo_number__code_ok (px_k0) 25 32 _ _ h q e
set_option maxRecDepth 200000 in
theorem mo_number__ok {d : Nat} {x1 : Int32} {x2 : Int32} {h : pH} {q : Int32 × pH} (e : mo_number_ x1 x2 h = some q) : px_Con (d + 5) 195 [.inr (.inl 51), .inl x1, .inl x2] h q :=
  px_con (X := pX_RX11) (b := prog_13_method_23_code) (nL := 4) (rt := (some .int)) rfl rfl (Nat.le_of_ble_eq_true rfl) rfl (px_blk_ok (d := d + 4) (M := (pX_RX11, prog_13_method_23_code, 4, (some .int))) (C := mo_number__orc) (code := mo_number__code) (ld := [32]) (kl := [(32, fun ls st h => px_if (px_fit [0, 0, 0, 1] ls && px_fits [] st) (mo_number__32 (px_gi ls 3) h))]) (mo_number__orc_ok) pX_ok_RX11 mo_number__code_ok (px_k1 (px_ko (ts := [0, 0, 0, 1]) (ss := []) fun ls st h q e => mo_number__32_ok _ _ _ e) px_k0) 25 0 _ _ _ q e)
/-! WordsUnsaidModel.letter(CII)I -/
noncomputable def mo_letter_35 (h : pH) : pR :=
  px_bind (mo_fault (h 51 18) h) fun _ h2 =>
  some (px_c 0, h2)
noncomputable def mo_letter (x1 : Int32) (x2 : Int32) (x3 : Int32) (h : pH) : pR :=
  px_bind (mo_fine h) fun z1 h2 =>
  if z1 = 0 then
    some (px_c 0, h2)
  else
    px_bind (mo_here h2) fun z3 h4 =>
    px_bind (mo_in z3 x1 ((x1 + x2) - (px_c 1)) h4) fun z5 h6 =>
    if z5 = 0 then
      mo_letter_35 h6
    else
      px_bind (mo_here h6) fun z7 h8 =>
      if (z7 - x1) = x3 then
        mo_letter_35 h8
      else
        let h9 := px_w h8 51 18 ((h8 51 18) + (px_c 1))
        px_if (decide (0 ≤ h9 51 15) && Nat.blt (h9 51 15).toNatClampNeg px_N) <|
        px_if (px_ok 1 ((h9 51 15).toNatClampNeg) ((h9 51 18) - (px_c 1)) || px_ok 3 ((h9 51 15).toNatClampNeg) ((h9 51 18) - (px_c 1))) <|
        some ((h9 ((h9 51 15).toNatClampNeg) ((h9 51 18) - (px_c 1)).toNatClampNeg) - x1, h9)
def mo_letter_code : pCode := [(0, .aload_n 0, 1), (1, .invokevirtual 147, 3), (4, .ifCond .ne (5), 3), (7, .iconst 0, 1), (8, .ireturn, 1), (9, .aload_n 0, 1), (10, .invokevirtual 151, 3), (13, .iload_n 1, 1), (14, .iload_n 1, 1), (15, .iload_n 2, 1), (16, .iadd, 1), (17, .iconst 1, 1), (18, .isub, 1), (19, .invokestatic 115, 3), (22, .ifCond .eq (13), 3), (25, .aload_n 0, 1), (26, .invokevirtual 151, 3), (29, .iload_n 1, 1), (30, .isub, 1), (31, .iload_n 3, 1), (32, .if_icmp .ne (13), 3), (35, .aload_n 0, 1), (36, .aload_n 0, 1), (37, .getfield 141, 3), (40, .invokevirtual 159, 3), (43, .iconst 0, 1), (44, .ireturn, 1), (45, .aload_n 0, 1), (46, .dup, 1), (47, .getfield 141, 3), (50, .iconst 1, 1), (51, .iadd, 1), (52, .putfield 141, 3), (55, .aload_n 0, 1), (56, .getfield 132, 3), (59, .aload_n 0, 1), (60, .getfield 141, 3), (63, .iconst 1, 1), (64, .isub, 1), (65, .baload, 1), (66, .iload_n 1, 1), (67, .isub, 1), (68, .ireturn, 1)]
set_option maxRecDepth 200000 in
theorem mo_letter_code_ok : px_code prog_13_method_24_code mo_letter_code = true := by decide +kernel
noncomputable def mo_letter_orc : pC := px_orc [(190, fun a h => match a with
    | [.inr (.inl 51), .inl v1] => mo_fault v1 h
    | _ => none), (189, fun a h => match a with
    | [.inr (.inl 51)] => mo_fine h
    | _ => none), (188, fun a h => match a with
    | [.inr (.inl 51)] => mo_here h
    | _ => none), (175, fun a h => match a with
    | [.inl v0, .inl v1, .inl v2] => mo_in v0 v1 v2 h
    | _ => none)]
theorem mo_letter_orc_ok {d : Nat} : px_Or (d + 2) (mo_letter_orc) := px_orc_ok (by
  refine px_o1 (fun a h q e => by
    dsimp only at e
    split at e
    · exact mo_fault_ok (d := d + 0) e
    · cases e) ?_
  refine px_o1 (fun a h q e => by
    dsimp only at e
    split at e
    · exact mo_fine_ok (d := d + 1) e
    · cases e) ?_
  refine px_o1 (fun a h q e => by
    dsimp only at e
    split at e
    · exact mo_here_ok (d := d + 1) e
    · cases e) ?_
  refine px_o1 (fun a h q e => by
    dsimp only at e
    split at e
    · exact mo_in_ok (d := d + 1) e
    · cases e) ?_
  exact px_o0)
set_option maxRecDepth 200000 in
theorem mo_letter_35_ok {d : Nat} : ∀ (h : pH) (q : Int32 × pH), mo_letter_35 h = some q → px_G (d + 2 + 1) (pX_RX11, prog_13_method_24_code, 4, (some .int)) 35 [some (.inr (.inl 51)), none, none, none] [] h q := by
  intro h q e
  exact px_blk_ok (d := d + 2) (M := (pX_RX11, prog_13_method_24_code, 4, (some .int))) (C := mo_letter_orc) (code := mo_letter_code) (ld := []) (kl := []) (mo_letter_orc_ok) pX_ok_RX11 mo_letter_code_ok (px_k0) 48 35 _ _ h q e
set_option maxRecDepth 200000 in
theorem mo_letter_ok {d : Nat} {x1 : Int32} {x2 : Int32} {x3 : Int32} {h : pH} {q : Int32 × pH} (e : mo_letter x1 x2 x3 h = some q) : px_Con (d + 3) 196 [.inr (.inl 51), .inl x1, .inl x2, .inl x3] h q :=
  px_con (X := pX_RX11) (b := prog_13_method_24_code) (nL := 4) (rt := (some .int)) rfl rfl (Nat.le_of_ble_eq_true rfl) rfl (px_blk_ok (d := d + 2) (M := (pX_RX11, prog_13_method_24_code, 4, (some .int))) (C := mo_letter_orc) (code := mo_letter_code) (ld := [35]) (kl := [(35, fun ls st h => px_if (px_fit [61, 0, 0, 0] ls && px_fits [] st) (mo_letter_35 h))]) (mo_letter_orc_ok) pX_ok_RX11 mo_letter_code_ok (px_k1 (px_ko (ts := [61, 0, 0, 0]) (ss := []) fun ls st h q e => mo_letter_35_ok _ _ e) px_k0) 48 0 _ _ _ q e)
/-! WordsUnsaidModel.letterOf(I)I -/
noncomputable def mo_letterOf_72 (s0 : Int32) (h : pH) : pR :=
  some (s0, h)
noncomputable def mo_letterOf (x0 : Int32) (h : pH) : pR :=
  if x0 = (px_c 112) then
    mo_letterOf_72 (px_c 0) h
  else
    if x0 = (px_c 116) then
      mo_letterOf_72 (px_c 1) h
    else
      if x0 = (px_c 119) then
        mo_letterOf_72 (px_c 2) h
      else
        if x0 = (px_c 121) then
          mo_letterOf_72 (px_c 3) h
        else
          if x0 = (px_c 110) then
            mo_letterOf_72 (px_c 4) h
          else
            if x0 = (px_c 105) then
              mo_letterOf_72 (px_c 5) h
            else
              if x0 = (px_c 111) then
                mo_letterOf_72 (px_c 6) h
              else
                mo_letterOf_72 (px_c (-1)) h
def mo_letterOf_code : pCode := [(0, .iload_n 0, 1), (1, .bipush (112), 2), (3, .if_icmp .ne (7), 3), (6, .iconst 0, 1), (7, .goto (65), 3), (10, .iload_n 0, 1), (11, .bipush (116), 2), (13, .if_icmp .ne (7), 3), (16, .iconst 1, 1), (17, .goto (55), 3), (20, .iload_n 0, 1), (21, .bipush (119), 2), (23, .if_icmp .ne (7), 3), (26, .iconst 2, 1), (27, .goto (45), 3), (30, .iload_n 0, 1), (31, .bipush (121), 2), (33, .if_icmp .ne (7), 3), (36, .iconst 3, 1), (37, .goto (35), 3), (40, .iload_n 0, 1), (41, .bipush (110), 2), (43, .if_icmp .ne (7), 3), (46, .iconst 4, 1), (47, .goto (25), 3), (50, .iload_n 0, 1), (51, .bipush (105), 2), (53, .if_icmp .ne (7), 3), (56, .iconst 5, 1), (57, .goto (15), 3), (60, .iload_n 0, 1), (61, .bipush (111), 2), (63, .if_icmp .ne (8), 3), (66, .bipush (6), 2), (68, .goto (4), 3), (71, .iconst (-1), 1), (72, .ireturn, 1)]
set_option maxRecDepth 200000 in
theorem mo_letterOf_code_ok : px_code prog_13_method_31_code mo_letterOf_code = true := by decide +kernel
noncomputable def mo_letterOf_orc : pC := px_orc []
theorem mo_letterOf_orc_ok {d : Nat} : px_Or (d + 0) (mo_letterOf_orc) := px_orc_ok (by
  exact px_o0)
set_option maxRecDepth 200000 in
theorem mo_letterOf_72_ok {d : Nat} : ∀ (s0 : Int32) (h : pH) (q : Int32 × pH), mo_letterOf_72 s0 h = some q → px_G (d + 0 + 1) (pX_RX11, prog_13_method_31_code, 1, (some .int)) 72 [none] [.inl s0] h q := by
  intro s0 h q e
  exact px_blk_ok (d := d + 0) (M := (pX_RX11, prog_13_method_31_code, 1, (some .int))) (C := mo_letterOf_orc) (code := mo_letterOf_code) (ld := []) (kl := []) (mo_letterOf_orc_ok) pX_ok_RX11 mo_letterOf_code_ok (px_k0) 42 72 _ _ h q e
set_option maxRecDepth 200000 in
theorem mo_letterOf_ok {d : Nat} {x0 : Int32} {h : pH} {q : Int32 × pH} (e : mo_letterOf x0 h = some q) : px_Con (d + 1) 203 [.inl x0] h q :=
  px_con (X := pX_RX11) (b := prog_13_method_31_code) (nL := 1) (rt := (some .int)) rfl rfl (Nat.le_of_ble_eq_true rfl) rfl (px_blk_ok (d := d + 0) (M := (pX_RX11, prog_13_method_31_code, 1, (some .int))) (C := mo_letterOf_orc) (code := mo_letterOf_code) (ld := [72]) (kl := [(72, fun ls st h => px_if (px_fit [0] ls && px_fits [1] st) (mo_letterOf_72 (px_si st 0) h))]) (mo_letterOf_orc_ok) pX_ok_RX11 mo_letterOf_code_ok (px_k1 (px_ko (ts := [0]) (ss := [1]) fun ls st h q e => mo_letterOf_72_ok _ _ _ e) px_k0) 42 0 _ _ _ q e)
