/-! the reference, second half -/
/-! WordsUnsaidModel.aboardOf(III)I -/
noncomputable def mo_aboardOf_86 (s0 : Int32) (h : pH) : pR :=
  some (s0, h)
noncomputable def mo_aboardOf_85 (s0 : Int32) (s1 : Int32) (h : pH) : pR :=
  mo_aboardOf_86 (s1 ||| s0) h
noncomputable def mo_aboardOf_59 (x1 : Int32) (x2 : Int32) (s0 : Int32) (h : pH) : pR :=
  if s0 = 0 then
    mo_aboardOf_86 (px_c 0) h
  else
    if x2 = (px_c (-1)) then
      mo_aboardOf_85 (px_c 0) ((px_c 1) <<< (x1 &&& 31)) h
    else
      mo_aboardOf_85 ((px_c 1) <<< (x2 &&& 31)) ((px_c 1) <<< (x1 &&& 31)) h
noncomputable def mo_aboardOf_58 (x1 : Int32) (x2 : Int32) (h : pH) : pR :=
  mo_aboardOf_59 x1 x2 (px_c 0) h
noncomputable def mo_aboardOf_37 (x1 : Int32) (x2 : Int32) (x3 : Int32) (h : pH) : pR :=
  px_bind (mo_isBank x3 h) fun z1 h2 =>
  if z1 = 0 then
    mo_aboardOf_58 x1 x2 h2
  else
    px_if (px_ok 0 52 x1) <|
    if (h2 52 x1.toNatClampNeg) = x3 then
      mo_aboardOf_58 x1 x2 h2
    else
      mo_aboardOf_59 x1 x2 (px_c 1) h2
noncomputable def mo_aboardOf (x1 : Int32) (x2 : Int32) (x3 : Int32) (h : pH) : pR :=
  px_bind (mo_isPerson x1 h) fun z1 h2 =>
  if z1 = 0 then
    mo_aboardOf_58 x1 x2 h2
  else
    if x2 = (px_c (-1)) then
      mo_aboardOf_37 x1 x2 x3 h2
    else
      px_bind (mo_areTwo x1 x2 h2) fun z3 h4 =>
      if z3 = 0 then
        mo_aboardOf_58 x1 x2 h4
      else
        px_if (px_ok 0 52 x1) <|
        px_if (px_ok 0 52 x2) <|
        if (h4 52 x1.toNatClampNeg) = (h4 52 x2.toNatClampNeg) then
          mo_aboardOf_37 x1 x2 x3 h4
        else
          mo_aboardOf_58 x1 x2 h4
def mo_aboardOf_code : pCode := [(0, .aload_n 0, 1), (1, .iload_n 1, 1), (2, .invokevirtual 122, 3), (5, .ifCond .eq (53), 3), (8, .iload_n 2, 1), (9, .iconst (-1), 1), (10, .if_icmp .eq (27), 3), (13, .aload_n 0, 1), (14, .iload_n 1, 1), (15, .iload_n 2, 1), (16, .invokevirtual 299, 3), (19, .ifCond .eq (39), 3), (22, .aload_n 0, 1), (23, .getfield 9, 3), (26, .iload_n 1, 1), (27, .iaload, 1), (28, .aload_n 0, 1), (29, .getfield 9, 3), (32, .iload_n 2, 1), (33, .iaload, 1), (34, .if_icmp .ne (24), 3), (37, .iload_n 3, 1), (38, .invokestatic 302, 3), (41, .ifCond .eq (17), 3), (44, .aload_n 0, 1), (45, .getfield 9, 3), (48, .iload_n 1, 1), (49, .iaload, 1), (50, .iload_n 3, 1), (51, .if_icmp .eq (7), 3), (54, .iconst 1, 1), (55, .goto (4), 3), (58, .iconst 0, 1), (59, .istore 4, 2), (61, .iload 4, 2), (63, .ifCond .ne (7), 3), (66, .iconst 0, 1), (67, .goto (19), 3), (70, .iconst 1, 1), (71, .iload_n 1, 1), (72, .ishl, 1), (73, .iload_n 2, 1), (74, .iconst (-1), 1), (75, .if_icmp .ne (7), 3), (78, .iconst 0, 1), (79, .goto (6), 3), (82, .iconst 1, 1), (83, .iload_n 2, 1), (84, .ishl, 1), (85, .ior, 1), (86, .ireturn, 1)]
set_option maxRecDepth 200000 in
theorem mo_aboardOf_code_ok : px_code prog_13_method_53_code mo_aboardOf_code = true := by decide +kernel
noncomputable def mo_aboardOf_orc : pC := px_orc [(183, fun a h => match a with
    | [.inl v0] => mo_isBank v0 h
    | _ => none), (179, fun a h => match a with
    | [.inr (.inl 51), .inl v1] => mo_isPerson v1 h
    | _ => none), (181, fun a h => match a with
    | [.inr (.inl 51), .inl v1, .inl v2] => mo_areTwo v1 v2 h
    | _ => none)]
theorem mo_aboardOf_orc_ok {d : Nat} : px_Or (d + 3) (mo_aboardOf_orc) := px_orc_ok (by
  refine px_o1 (fun a h q e => by
    dsimp only at e
    split at e
    · exact mo_isBank_ok (d := d + 1) e
    · cases e) ?_
  refine px_o1 (fun a h q e => by
    dsimp only at e
    split at e
    · exact mo_isPerson_ok (d := d + 1) e
    · cases e) ?_
  refine px_o1 (fun a h q e => by
    dsimp only at e
    split at e
    · exact mo_areTwo_ok (d := d + 0) e
    · cases e) ?_
  exact px_o0)
set_option maxRecDepth 200000 in
theorem mo_aboardOf_86_ok {d : Nat} : ∀ (s0 : Int32) (h : pH) (q : Int32 × pH), mo_aboardOf_86 s0 h = some q → px_G (d + 3 + 1) (pX_RX11, prog_13_method_53_code, 5, (some .int)) 86 [none, none, none, none, none] [.inl s0] h q := by
  intro s0 h q e
  exact px_blk_ok (d := d + 3) (M := (pX_RX11, prog_13_method_53_code, 5, (some .int))) (C := mo_aboardOf_orc) (code := mo_aboardOf_code) (ld := []) (kl := []) (mo_aboardOf_orc_ok) pX_ok_RX11 mo_aboardOf_code_ok (px_k0) 56 86 _ _ h q e
set_option maxRecDepth 200000 in
theorem mo_aboardOf_85_ok {d : Nat} : ∀ (s0 : Int32) (s1 : Int32) (h : pH) (q : Int32 × pH), mo_aboardOf_85 s0 s1 h = some q → px_G (d + 3 + 1) (pX_RX11, prog_13_method_53_code, 5, (some .int)) 85 [none, none, none, none, none] [.inl s0, .inl s1] h q := by
  intro s0 s1 h q e
  exact px_blk_ok (d := d + 3) (M := (pX_RX11, prog_13_method_53_code, 5, (some .int))) (C := mo_aboardOf_orc) (code := mo_aboardOf_code) (ld := [86]) (kl := [(86, fun ls st h => px_if (px_fit [0, 0, 0, 0, 0] ls && px_fits [1] st) (mo_aboardOf_86 (px_si st 0) h))]) (mo_aboardOf_orc_ok) pX_ok_RX11 mo_aboardOf_code_ok (px_k1 (px_ko (ts := [0, 0, 0, 0, 0]) (ss := [1]) fun ls st h q e => mo_aboardOf_86_ok _ _ _ e) px_k0) 56 85 _ _ h q e
set_option maxRecDepth 200000 in
theorem mo_aboardOf_59_ok {d : Nat} : ∀ (x1 : Int32) (x2 : Int32) (s0 : Int32) (h : pH) (q : Int32 × pH), mo_aboardOf_59 x1 x2 s0 h = some q → px_G (d + 3 + 1) (pX_RX11, prog_13_method_53_code, 5, (some .int)) 59 [none, some (.inl x1), some (.inl x2), none, none] [.inl s0] h q := by
  intro x1 x2 s0 h q e
  exact px_blk_ok (d := d + 3) (M := (pX_RX11, prog_13_method_53_code, 5, (some .int))) (C := mo_aboardOf_orc) (code := mo_aboardOf_code) (ld := [85, 86]) (kl := [(85, fun ls st h => px_if (px_fit [0, 0, 0, 0, 0] ls && px_fits [1, 1] st) (mo_aboardOf_85 (px_si st 0) (px_si st 1) h)), (86, fun ls st h => px_if (px_fit [0, 0, 0, 0, 0] ls && px_fits [1] st) (mo_aboardOf_86 (px_si st 0) h))]) (mo_aboardOf_orc_ok) pX_ok_RX11 mo_aboardOf_code_ok (px_k1 (px_ko (ts := [0, 0, 0, 0, 0]) (ss := [1, 1]) fun ls st h q e => mo_aboardOf_85_ok _ _ _ _ e) (px_k1 (px_ko (ts := [0, 0, 0, 0, 0]) (ss := [1]) fun ls st h q e => mo_aboardOf_86_ok _ _ _ e) px_k0)) 56 59 _ _ h q e
set_option maxRecDepth 200000 in
theorem mo_aboardOf_58_ok {d : Nat} : ∀ (x1 : Int32) (x2 : Int32) (h : pH) (q : Int32 × pH), mo_aboardOf_58 x1 x2 h = some q → px_G (d + 3 + 1) (pX_RX11, prog_13_method_53_code, 5, (some .int)) 58 [none, some (.inl x1), some (.inl x2), none, none] [] h q := by
  intro x1 x2 h q e
  exact px_blk_ok (d := d + 3) (M := (pX_RX11, prog_13_method_53_code, 5, (some .int))) (C := mo_aboardOf_orc) (code := mo_aboardOf_code) (ld := [59]) (kl := [(59, fun ls st h => px_if (px_fit [0, 1, 1, 0, 0] ls && px_fits [1] st) (mo_aboardOf_59 (px_gi ls 1) (px_gi ls 2) (px_si st 0) h))]) (mo_aboardOf_orc_ok) pX_ok_RX11 mo_aboardOf_code_ok (px_k1 (px_ko (ts := [0, 1, 1, 0, 0]) (ss := [1]) fun ls st h q e => mo_aboardOf_59_ok _ _ _ _ _ e) px_k0) 56 58 _ _ h q e
set_option maxRecDepth 200000 in
theorem mo_aboardOf_37_ok {d : Nat} : ∀ (x1 : Int32) (x2 : Int32) (x3 : Int32) (h : pH) (q : Int32 × pH), mo_aboardOf_37 x1 x2 x3 h = some q → px_G (d + 3 + 1) (pX_RX11, prog_13_method_53_code, 5, (some .int)) 37 [some (.inr (.inl 51)), some (.inl x1), some (.inl x2), some (.inl x3), none] [] h q := by
  intro x1 x2 x3 h q e
  exact px_blk_ok (d := d + 3) (M := (pX_RX11, prog_13_method_53_code, 5, (some .int))) (C := mo_aboardOf_orc) (code := mo_aboardOf_code) (ld := [58, 59]) (kl := [(58, fun ls st h => px_if (px_fit [0, 1, 1, 0, 0] ls && px_fits [] st) (mo_aboardOf_58 (px_gi ls 1) (px_gi ls 2) h)), (59, fun ls st h => px_if (px_fit [0, 1, 1, 0, 0] ls && px_fits [1] st) (mo_aboardOf_59 (px_gi ls 1) (px_gi ls 2) (px_si st 0) h))]) (mo_aboardOf_orc_ok) pX_ok_RX11 mo_aboardOf_code_ok (px_k1 (px_ko (ts := [0, 1, 1, 0, 0]) (ss := []) fun ls st h q e => mo_aboardOf_58_ok _ _ _ _ e) (px_k1 (px_ko (ts := [0, 1, 1, 0, 0]) (ss := [1]) fun ls st h q e => mo_aboardOf_59_ok _ _ _ _ _ e) px_k0)) 56 37 _ _ h q e
set_option maxRecDepth 200000 in
theorem mo_aboardOf_ok {d : Nat} {x1 : Int32} {x2 : Int32} {x3 : Int32} {h : pH} {q : Int32 × pH} (e : mo_aboardOf x1 x2 x3 h = some q) : px_Con (d + 4) 225 [.inr (.inl 51), .inl x1, .inl x2, .inl x3] h q :=
  px_con (X := pX_RX11) (b := prog_13_method_53_code) (nL := 5) (rt := (some .int)) rfl rfl (Nat.le_of_ble_eq_true rfl) rfl (px_blk_ok (d := d + 3) (M := (pX_RX11, prog_13_method_53_code, 5, (some .int))) (C := mo_aboardOf_orc) (code := mo_aboardOf_code) (ld := [37, 58]) (kl := [(37, fun ls st h => px_if (px_fit [61, 1, 1, 1, 0] ls && px_fits [] st) (mo_aboardOf_37 (px_gi ls 1) (px_gi ls 2) (px_gi ls 3) h)), (58, fun ls st h => px_if (px_fit [0, 1, 1, 0, 0] ls && px_fits [] st) (mo_aboardOf_58 (px_gi ls 1) (px_gi ls 2) h))]) (mo_aboardOf_orc_ok) pX_ok_RX11 mo_aboardOf_code_ok (px_k1 (px_ko (ts := [61, 1, 1, 1, 0]) (ss := []) fun ls st h q e => mo_aboardOf_37_ok _ _ _ _ _ e) (px_k1 (px_ko (ts := [0, 1, 1, 0, 0]) (ss := []) fun ls st h q e => mo_aboardOf_58_ok _ _ _ _ e) px_k0)) 56 0 _ _ _ q e)
/-! WordsUnsaidModel.canLine([III)Z -/
noncomputable def mo_canLine_40 (h : pH) : pR :=
  px_bz (px_c 0) h
noncomputable def mo_canLine_45 : Nat → Int32 → Int32 → pH → pR
  | 0, _, _, _ => none
  | n + 1, x2, x4, h =>
    if (h 51 30) ≤ x4 then
      px_bz (px_c 1) h
    else
      px_if (px_ok 0 65 x4) <|
      if (h 65 x4.toNatClampNeg) = x2 then
        px_bz (px_c 0) h
      else
        mo_canLine_45 n x2 (x4 + px_c 1) h
noncomputable def mo_canLine (a1 : Nat) (x2 : Int32) (x3 : Int32) (h : pH) : pR :=
  px_bind (mo_isThing x2 h) fun z1 h2 =>
  if z1 = 0 then
    mo_canLine_40 h2
  else
    px_if (px_ok 0 a1 ((px_c 22) + x2)) <|
    if (h2 a1 ((px_c 22) + x2).toNatClampNeg) = (px_c 1) then
      mo_canLine_40 h2
    else
      px_if (px_ok 0 a1 ((px_c 12) + x2)) <|
      if (h2 a1 ((px_c 12) + x2).toNatClampNeg) = 0 then
        mo_canLine_40 h2
      else
        px_if (px_ok 0 a1 ((px_c 32) + x2)) <|
        px_bind (mo_has x3 (h2 a1 ((px_c 32) + x2).toNatClampNeg) h2) fun z3 h4 =>
        if z3 = 0 then
          mo_canLine_40 h4
        else
          mo_canLine_45 px_F x2 (px_c 0) h4
def mo_canLine_code : pCode := [(0, .aload_n 0, 1), (1, .iload_n 2, 1), (2, .invokevirtual 251, 3), (5, .ifCond .eq (35), 3), (8, .aload_n 1, 1), (9, .bipush (22), 2), (11, .iload_n 2, 1), (12, .iadd, 1), (13, .iaload, 1), (14, .iconst 1, 1), (15, .if_icmp .eq (25), 3), (18, .aload_n 1, 1), (19, .bipush (12), 2), (21, .iload_n 2, 1), (22, .iadd, 1), (23, .iaload, 1), (24, .ifCond .eq (16), 3), (27, .iload_n 3, 1), (28, .aload_n 1, 1), (29, .bipush (32), 2), (31, .iload_n 2, 1), (32, .iadd, 1), (33, .iaload, 1), (34, .invokestatic 227, 3), (37, .ifCond .ne (5), 3), (40, .iconst 0, 1), (41, .ireturn, 1), (42, .iconst 0, 1), (43, .istore 4, 2), (45, .iload 4, 2), (47, .aload_n 0, 1), (48, .getfield 292, 3), (51, .if_icmp .ge (22), 3), (54, .aload_n 0, 1), (55, .getfield 54, 3), (58, .iload 4, 2), (60, .iaload, 1), (61, .iload_n 2, 1), (62, .if_icmp .ne (5), 3), (65, .iconst 0, 1), (66, .ireturn, 1), (67, .iinc 4 (1), 3), (70, .goto (-25), 3), (73, .iconst 1, 1), (74, .ireturn, 1)]
set_option maxRecDepth 200000 in
theorem mo_canLine_code_ok : px_code prog_13_method_54_code mo_canLine_code = true := by decide +kernel
noncomputable def mo_canLine_orc : pC := px_orc [(180, fun a h => match a with
    | [.inr (.inl 51), .inl v1] => mo_isThing v1 h
    | _ => none), (176, fun a h => match a with
    | [.inl v0, .inl v1] => mo_has v0 v1 h
    | _ => none)]
theorem mo_canLine_orc_ok {d : Nat} : px_Or (d + 2) (mo_canLine_orc) := px_orc_ok (by
  refine px_o1 (fun a h q e => by
    dsimp only at e
    split at e
    · exact mo_isThing_ok (d := d + 0) e
    · cases e) ?_
  refine px_o1 (fun a h q e => by
    dsimp only at e
    split at e
    · exact mo_has_ok (d := d + 1) e
    · cases e) ?_
  exact px_o0)
set_option maxRecDepth 200000 in
theorem mo_canLine_40_ok {d : Nat} : ∀ (h : pH) (q : Int32 × pH), mo_canLine_40 h = some q → px_G (d + 2 + 1) (pX_RX11, prog_13_method_54_code, 5, (some .boolean)) 40 [none, none, none, none, none] [] h q := by
  intro h q e
  exact px_blk_ok (d := d + 2) (M := (pX_RX11, prog_13_method_54_code, 5, (some .boolean))) (C := mo_canLine_orc) (code := mo_canLine_code) (ld := []) (kl := []) (mo_canLine_orc_ok) pX_ok_RX11 mo_canLine_code_ok (px_k0) 50 40 _ _ h q e
set_option maxRecDepth 200000 in
theorem mo_canLine_45_ok {d : Nat} : ∀ (n : Nat) (x2 : Int32) (x4 : Int32) (h : pH) (q : Int32 × pH), mo_canLine_45 n x2 x4 h = some q → px_G (d + 2 + 1) (pX_RX11, prog_13_method_54_code, 5, (some .boolean)) 45 [some (.inr (.inl 51)), none, some (.inl x2), none, some (.inl x4)] [] h q := by
  intro n
  induction n with
  | zero =>
    intro x2 x4 h q e
    cases e
  | succ n ih =>
    intro x2 x4 h q e
    exact px_blk_ok (d := d + 2) (M := (pX_RX11, prog_13_method_54_code, 5, (some .boolean))) (C := mo_canLine_orc) (code := mo_canLine_code) (ld := [45]) (kl := [(45, fun ls st h => px_if (px_fit [61, 0, 1, 0, 1] ls && px_fits [] st) (mo_canLine_45 n (px_gi ls 2) (px_gi ls 4) h))]) (mo_canLine_orc_ok) pX_ok_RX11 mo_canLine_code_ok (px_k1 (px_ko (ts := [61, 0, 1, 0, 1]) (ss := []) fun ls st h q e => ih _ _ _ _ e) px_k0) 50 45 _ _ h q e
set_option maxRecDepth 200000 in
theorem mo_canLine_ok {d : Nat} {a1 : Nat} {x2 : Int32} {x3 : Int32} {h : pH} {q : Int32 × pH} (e : mo_canLine a1 x2 x3 h = some q) : px_Con (d + 3) 226 [.inr (.inl 51), .inr (.inl a1), .inl x2, .inl x3] h q :=
  px_con (X := pX_RX11) (b := prog_13_method_54_code) (nL := 5) (rt := (some .boolean)) rfl rfl (Nat.le_of_ble_eq_true rfl) rfl (px_blk_ok (d := d + 2) (M := (pX_RX11, prog_13_method_54_code, 5, (some .boolean))) (C := mo_canLine_orc) (code := mo_canLine_code) (ld := [45, 40]) (kl := [(45, fun ls st h => px_if (px_fit [61, 0, 1, 0, 1] ls && px_fits [] st) (mo_canLine_45 px_F (px_gi ls 2) (px_gi ls 4) h)), (40, fun ls st h => px_if (px_fit [0, 0, 0, 0, 0] ls && px_fits [] st) (mo_canLine_40 h))]) (mo_canLine_orc_ok) pX_ok_RX11 mo_canLine_code_ok (px_k1 (px_ko (ts := [61, 0, 1, 0, 1]) (ss := []) fun ls st h q e => mo_canLine_45_ok _ _ _ _ _ e) (px_k1 (px_ko (ts := [0, 0, 0, 0, 0]) (ss := []) fun ls st h q e => mo_canLine_40_ok _ _ e) px_k0)) 50 0 _ _ _ q e)
/-! WordsUnsaidModel.readLine0(III)I -/
noncomputable def mo_readLine0_140 (s0 : Int32) (h : pH) : pR :=
  some (s0, h)
noncomputable def mo_readLine0_77 (x5 : Int32) (h : pH) : pR :=
  some ((px_c (-1)) - x5, h)
noncomputable def mo_readLine0_26 : Nat → Int32 → Int32 → Int32 → Int32 → Int32 → pH → pR
  | 0, _, _, _, _, _, _ => none
  | n + 1, x1, x2, x3, x4, x5, h =>
    if x4 ≤ x5 then
      if x4 = 0 then
        some (px_c (-1), h)
      else
        px_bind (mo_wordsIn 52 h) fun z1 h2 =>
        px_bind (mo_distance x2 x3 h2) fun z3 h4 =>
        if z3 ≤ z1 then
          mo_readLine0_140 (px_c 0) h4
        else
          mo_readLine0_140 (px_c (-200)) h4
    else
      px_if (px_ok 1 58 x5 || px_ok 3 58 x5) <|
      let y6_5 := (h 58 x5.toNatClampNeg) - (px_c 113)
      if x5 = (px_c 6) then
        mo_readLine0_77 x5 h
      else
        px_bind (mo_in y6_5 (px_c 0) (px_c 9) h) fun z6 h7 =>
        if z6 = 0 then
          mo_readLine0_77 x5 h7
        else
          px_bind (mo_canLine 52 y6_5 x1 h7) fun z8 h9 =>
          if z8 = 0 then
            mo_readLine0_77 x5 h9
          else
            px_if (px_ok 0 65 (h9 51 30)) <|
            let h10 := px_w h9 65 (h9 51 30).toNatClampNeg y6_5
            let h11 := px_w h10 51 30 ((h10 51 30) + (px_c 1))
            mo_readLine0_26 n x1 x2 x3 x4 (x5 + px_c 1) h11
noncomputable def mo_readLine0 (x1 : Int32) (x2 : Int32) (x3 : Int32) (h : pH) : pR :=
  let y4_1 := h 51 11
  let h2 := px_w h 51 11 (px_c 0)
  if x1 = 0 then
    some (px_c (-100), h2)
  else
    let h3 := px_w h2 51 30 (px_c 0)
    mo_readLine0_26 px_F x1 x2 x3 y4_1 (px_c 0) h3
def mo_readLine0_code : pCode := [(0, .aload_n 0, 1), (1, .getfield 129, 3), (4, .istore 4, 2), (6, .aload_n 0, 1), (7, .iconst 0, 1), (8, .putfield 129, 3), (11, .iload_n 1, 1), (12, .ifCond .ne (6), 3), (15, .bipush (-100), 2), (17, .ireturn, 1), (18, .aload_n 0, 1), (19, .iconst 0, 1), (20, .putfield 292, 3), (23, .iconst 0, 1), (24, .istore 5, 2), (26, .iload 5, 2), (28, .iload 4, 2), (30, .if_icmp .ge (79), 3), (33, .aload_n 0, 1), (34, .getfield 32, 3), (37, .iload 5, 2), (39, .baload, 1), (40, .bipush (113), 2), (42, .isub, 1), (43, .istore 6, 2), (45, .iload 5, 2), (47, .bipush (6), 2), (49, .if_icmp .eq (28), 3), (52, .iload 6, 2), (54, .iconst 0, 1), (55, .bipush (9), 2), (57, .invokestatic 115, 3), (60, .ifCond .eq (17), 3), (63, .aload_n 0, 1), (64, .aload_n 0, 1), (65, .getfield 9, 3), (68, .iload 6, 2), (70, .iload_n 1, 1), (71, .invokevirtual 305, 3), (74, .ifCond .ne (8), 3), (77, .iconst (-1), 1), (78, .iload 5, 2), (80, .isub, 1), (81, .ireturn, 1), (82, .aload_n 0, 1), (83, .getfield 54, 3), (86, .aload_n 0, 1), (87, .getfield 292, 3), (90, .iload 6, 2), (92, .iastore, 1), (93, .aload_n 0, 1), (94, .dup, 1), (95, .getfield 292, 3), (98, .iconst 1, 1), (99, .iadd, 1), (100, .putfield 292, 3), (103, .iinc 5 (1), 3), (106, .goto (-80), 3), (109, .iload 4, 2), (111, .ifCond .ne (5), 3), (114, .iconst (-1), 1), (115, .ireturn, 1), (116, .aload_n 0, 1), (117, .aload_n 0, 1), (118, .getfield 9, 3), (121, .invokevirtual 309, 3), (124, .aload_n 0, 1), (125, .iload_n 2, 1), (126, .iload_n 3, 1), (127, .invokevirtual 268, 3), (130, .if_icmp .ge (9), 3), (133, .sipush (-200), 3), (136, .goto (4), 3), (139, .iconst 0, 1), (140, .ireturn, 1)]
set_option maxRecDepth 200000 in
theorem mo_readLine0_code_ok : px_code prog_13_method_55_code mo_readLine0_code = true := by decide +kernel
noncomputable def mo_readLine0_orc : pC := px_orc [(222, fun a h => match a with
    | [.inr (.inl 51), .inr (.inl v1)] => mo_wordsIn v1 h
    | _ => none), (218, fun a h => match a with
    | [.inr (.inl 51), .inl v1, .inl v2] => mo_distance v1 v2 h
    | _ => none), (175, fun a h => match a with
    | [.inl v0, .inl v1, .inl v2] => mo_in v0 v1 v2 h
    | _ => none), (226, fun a h => match a with
    | [.inr (.inl 51), .inr (.inl v1), .inl v2, .inl v3] => mo_canLine v1 v2 v3 h
    | _ => none)]
theorem mo_readLine0_orc_ok {d : Nat} : px_Or (d + 3) (mo_readLine0_orc) := px_orc_ok (by
  refine px_o1 (fun a h q e => by
    dsimp only at e
    split at e
    · exact mo_wordsIn_ok (d := d + 2) e
    · cases e) ?_
  refine px_o1 (fun a h q e => by
    dsimp only at e
    split at e
    · exact mo_distance_ok (d := d + 1) e
    · cases e) ?_
  refine px_o1 (fun a h q e => by
    dsimp only at e
    split at e
    · exact mo_in_ok (d := d + 2) e
    · cases e) ?_
  refine px_o1 (fun a h q e => by
    dsimp only at e
    split at e
    · exact mo_canLine_ok (d := d + 0) e
    · cases e) ?_
  exact px_o0)
set_option maxRecDepth 200000 in
theorem mo_readLine0_140_ok {d : Nat} : ∀ (s0 : Int32) (h : pH) (q : Int32 × pH), mo_readLine0_140 s0 h = some q → px_G (d + 3 + 1) (pX_RX11, prog_13_method_55_code, 7, (some .int)) 140 [none, none, none, none, none, none, none] [.inl s0] h q := by
  intro s0 h q e
  exact px_blk_ok (d := d + 3) (M := (pX_RX11, prog_13_method_55_code, 7, (some .int))) (C := mo_readLine0_orc) (code := mo_readLine0_code) (ld := []) (kl := []) (mo_readLine0_orc_ok) pX_ok_RX11 mo_readLine0_code_ok (px_k0) 80 140 _ _ h q e
set_option maxRecDepth 200000 in
theorem mo_readLine0_77_ok {d : Nat} : ∀ (x5 : Int32) (h : pH) (q : Int32 × pH), mo_readLine0_77 x5 h = some q → px_G (d + 3 + 1) (pX_RX11, prog_13_method_55_code, 7, (some .int)) 77 [none, none, none, none, none, some (.inl x5), none] [] h q := by
  intro x5 h q e
  exact px_blk_ok (d := d + 3) (M := (pX_RX11, prog_13_method_55_code, 7, (some .int))) (C := mo_readLine0_orc) (code := mo_readLine0_code) (ld := []) (kl := []) (mo_readLine0_orc_ok) pX_ok_RX11 mo_readLine0_code_ok (px_k0) 80 77 _ _ h q e
set_option maxRecDepth 200000 in
theorem mo_readLine0_26_ok {d : Nat} : ∀ (n : Nat) (x1 : Int32) (x2 : Int32) (x3 : Int32) (x4 : Int32) (x5 : Int32) (h : pH) (q : Int32 × pH), mo_readLine0_26 n x1 x2 x3 x4 x5 h = some q → px_G (d + 3 + 1) (pX_RX11, prog_13_method_55_code, 7, (some .int)) 26 [some (.inr (.inl 51)), some (.inl x1), some (.inl x2), some (.inl x3), some (.inl x4), some (.inl x5), none] [] h q := by
  intro n
  induction n with
  | zero =>
    intro x1 x2 x3 x4 x5 h q e
    cases e
  | succ n ih =>
    intro x1 x2 x3 x4 x5 h q e
    exact px_blk_ok (d := d + 3) (M := (pX_RX11, prog_13_method_55_code, 7, (some .int))) (C := mo_readLine0_orc) (code := mo_readLine0_code) (ld := [26, 77, 140]) (kl := [(26, fun ls st h => px_if (px_fit [61, 1, 1, 1, 1, 1, 0] ls && px_fits [] st) (mo_readLine0_26 n (px_gi ls 1) (px_gi ls 2) (px_gi ls 3) (px_gi ls 4) (px_gi ls 5) h)), (77, fun ls st h => px_if (px_fit [0, 0, 0, 0, 0, 1, 0] ls && px_fits [] st) (mo_readLine0_77 (px_gi ls 5) h)), (140, fun ls st h => px_if (px_fit [0, 0, 0, 0, 0, 0, 0] ls && px_fits [1] st) (mo_readLine0_140 (px_si st 0) h))]) (mo_readLine0_orc_ok) pX_ok_RX11 mo_readLine0_code_ok (px_k1 (px_ko (ts := [61, 1, 1, 1, 1, 1, 0]) (ss := []) fun ls st h q e => ih _ _ _ _ _ _ _ e) (px_k1 (px_ko (ts := [0, 0, 0, 0, 0, 1, 0]) (ss := []) fun ls st h q e => mo_readLine0_77_ok _ _ _ e) (px_k1 (px_ko (ts := [0, 0, 0, 0, 0, 0, 0]) (ss := [1]) fun ls st h q e => mo_readLine0_140_ok _ _ _ e) px_k0))) 80 26 _ _ h q e
set_option maxRecDepth 200000 in
theorem mo_readLine0_ok {d : Nat} {x1 : Int32} {x2 : Int32} {x3 : Int32} {h : pH} {q : Int32 × pH} (e : mo_readLine0 x1 x2 x3 h = some q) : px_Con (d + 4) 227 [.inr (.inl 51), .inl x1, .inl x2, .inl x3] h q :=
  px_con (X := pX_RX11) (b := prog_13_method_55_code) (nL := 7) (rt := (some .int)) rfl rfl (Nat.le_of_ble_eq_true rfl) rfl (px_blk_ok (d := d + 3) (M := (pX_RX11, prog_13_method_55_code, 7, (some .int))) (C := mo_readLine0_orc) (code := mo_readLine0_code) (ld := [26]) (kl := [(26, fun ls st h => px_if (px_fit [61, 1, 1, 1, 1, 1, 0] ls && px_fits [] st) (mo_readLine0_26 px_F (px_gi ls 1) (px_gi ls 2) (px_gi ls 3) (px_gi ls 4) (px_gi ls 5) h))]) (mo_readLine0_orc_ok) pX_ok_RX11 mo_readLine0_code_ok (px_k1 (px_ko (ts := [61, 1, 1, 1, 1, 1, 0]) (ss := []) fun ls st h q e => mo_readLine0_26_ok _ _ _ _ _ _ _ _ e) px_k0) 80 0 _ _ _ q e)
/-! WordsUnsaidModel.tellCross([II)V -/
noncomputable def mo_tellCross (a1 : Nat) (x2 : Int32) (h : pH) : pR :=
  let h1 := px_w h 51 13 (px_c 0)
  px_if (px_ok 0 a1 x2) <|
  px_bind (mo_tell (h1 a1 x2.toNatClampNeg) h1) fun _ h3 =>
  px_bind (mo_tell (h3 51 32) h3) fun _ h5 =>
  px_bind (mo_tell (h5 51 31) h5) fun _ h7 =>
  some (0, h7)
def mo_tellCross_code : pCode := [(0, .aload_n 0, 1), (1, .iconst 0, 1), (2, .putfield 109, 3), (5, .aload_n 0, 1), (6, .aload_n 1, 1), (7, .iload_n 2, 1), (8, .iaload, 1), (9, .invokevirtual 312, 3), (12, .aload_n 0, 1), (13, .aload_n 0, 1), (14, .getfield 274, 3), (17, .invokevirtual 312, 3), (20, .aload_n 0, 1), (21, .aload_n 0, 1), (22, .getfield 271, 3), (25, .invokevirtual 312, 3), (28, .return_, 1)]
set_option maxRecDepth 200000 in
theorem mo_tellCross_code_ok : px_code prog_13_method_56_code mo_tellCross_code = true := by decide +kernel
noncomputable def mo_tellCross_orc : pC := px_orc [(178, fun a h => match a with
    | [.inr (.inl 51), .inl v1] => mo_tell v1 h
    | _ => none)]
theorem mo_tellCross_orc_ok {d : Nat} : px_Or (d + 1) (mo_tellCross_orc) := px_orc_ok (by
  refine px_o1 (fun a h q e => by
    dsimp only at e
    split at e
    · exact mo_tell_ok (d := d + 0) e
    · cases e) ?_
  exact px_o0)
set_option maxRecDepth 200000 in
theorem mo_tellCross_ok {d : Nat} {a1 : Nat} {x2 : Int32} {h : pH} {q : Int32 × pH} (e : mo_tellCross a1 x2 h = some q) : px_Con (d + 2) 228 [.inr (.inl 51), .inr (.inl a1), .inl x2] h q :=
  px_con (X := pX_RX11) (b := prog_13_method_56_code) (nL := 3) (rt := none) rfl rfl (Nat.le_of_ble_eq_true rfl) rfl (px_blk_ok (d := d + 1) (M := (pX_RX11, prog_13_method_56_code, 3, none)) (C := mo_tellCross_orc) (code := mo_tellCross_code) (ld := []) (kl := []) (mo_tellCross_orc_ok) pX_ok_RX11 mo_tellCross_code_ok (px_k0) 22 0 _ _ _ q e)
/-! WordsUnsaidModel.cross(III)I -/
noncomputable def mo_cross_32 (x1 : Int32) (x3 : Int32) (x4 : Int32) (s0 : Int32) (s1 : Int32) (h : pH) : pR :=
  px_bind (mo_readLine0 s1 s0 x3 h) fun z1 h2 =>
  if 0 ≤ z1 then
    px_bind (mo_remember 52 h2) fun _ h4 =>
    px_if (px_ok 0 52 x1) <|
    px_bind (mo_goes 52 x4 (h4 52 x1.toNatClampNeg) x3 h4) fun z5 h6 =>
    px_bind (mo_tellCross 52 x1 h6) fun _ h8 =>
    some (h8 51 31, h8)
  else
    some (z1, h2)
noncomputable def mo_cross (x1 : Int32) (x2 : Int32) (x3 : Int32) (h : pH) : pR :=
  let h1 := px_w h 51 14 (px_c 0)
  px_bind (mo_aboardOf x1 x2 x3 h1) fun z2 h3 =>
  if z2 = 0 then
    mo_cross_32 x1 x3 z2 (px_c 0) z2 h3
  else
    px_if (px_ok 0 52 x1) <|
    mo_cross_32 x1 x3 z2 (h3 52 x1.toNatClampNeg) z2 h3
def mo_cross_code : pCode := [(0, .aload_n 0, 1), (1, .iconst 0, 1), (2, .putfield 106, 3), (5, .aload_n 0, 1), (6, .iload_n 1, 1), (7, .iload_n 2, 1), (8, .iload_n 3, 1), (9, .invokevirtual 315, 3), (12, .istore 4, 2), (14, .aload_n 0, 1), (15, .iload 4, 2), (17, .iload 4, 2), (19, .ifCond .ne (7), 3), (22, .iconst 0, 1), (23, .goto (9), 3), (26, .aload_n 0, 1), (27, .getfield 9, 3), (30, .iload_n 1, 1), (31, .iaload, 1), (32, .iload_n 3, 1), (33, .invokevirtual 319, 3), (36, .istore 5, 2), (38, .iload 5, 2), (40, .ifCond .ge (6), 3), (43, .iload 5, 2), (45, .ireturn, 1), (46, .aload_n 0, 1), (47, .aload_n 0, 1), (48, .getfield 9, 3), (51, .invokevirtual 322, 3), (54, .aload_n 0, 1), (55, .aload_n 0, 1), (56, .getfield 9, 3), (59, .iload 4, 2), (61, .aload_n 0, 1), (62, .getfield 9, 3), (65, .iload_n 1, 1), (66, .iaload, 1), (67, .iload_n 3, 1), (68, .invokevirtual 326, 3), (71, .pop, 1), (72, .aload_n 0, 1), (73, .aload_n 0, 1), (74, .getfield 9, 3), (77, .iload_n 1, 1), (78, .invokevirtual 330, 3), (81, .aload_n 0, 1), (82, .getfield 271, 3), (85, .ireturn, 1)]
set_option maxRecDepth 200000 in
theorem mo_cross_code_ok : px_code prog_13_method_57_code mo_cross_code = true := by decide +kernel
noncomputable def mo_cross_orc : pC := px_orc [(227, fun a h => match a with
    | [.inr (.inl 51), .inl v1, .inl v2, .inl v3] => mo_readLine0 v1 v2 v3 h
    | _ => none), (224, fun a h => match a with
    | [.inr (.inl 51), .inr (.inl v1)] => mo_remember v1 h
    | _ => none), (219, fun a h => match a with
    | [.inr (.inl 51), .inr (.inl v1), .inl v2, .inl v3, .inl v4] => mo_goes v1 v2 v3 v4 h
    | _ => none), (228, fun a h => match a with
    | [.inr (.inl 51), .inr (.inl v1), .inl v2] => mo_tellCross v1 v2 h
    | _ => none), (225, fun a h => match a with
    | [.inr (.inl 51), .inl v1, .inl v2, .inl v3] => mo_aboardOf v1 v2 v3 h
    | _ => none)]
theorem mo_cross_orc_ok {d : Nat} : px_Or (d + 106) (mo_cross_orc) := px_orc_ok (by
  refine px_o1 (fun a h q e => by
    dsimp only at e
    split at e
    · exact mo_readLine0_ok (d := d + 102) e
    · cases e) ?_
  refine px_o1 (fun a h q e => by
    dsimp only at e
    split at e
    · exact mo_remember_ok (d := d + 104) e
    · cases e) ?_
  refine px_o1 (fun a h q e => by
    dsimp only at e
    split at e
    · exact mo_goes_ok (d := d + 0) e
    · cases e) ?_
  refine px_o1 (fun a h q e => by
    dsimp only at e
    split at e
    · exact mo_tellCross_ok (d := d + 104) e
    · cases e) ?_
  refine px_o1 (fun a h q e => by
    dsimp only at e
    split at e
    · exact mo_aboardOf_ok (d := d + 102) e
    · cases e) ?_
  exact px_o0)
set_option maxRecDepth 200000 in
theorem mo_cross_32_ok {d : Nat} : ∀ (x1 : Int32) (x3 : Int32) (x4 : Int32) (s0 : Int32) (s1 : Int32) (h : pH) (q : Int32 × pH), mo_cross_32 x1 x3 x4 s0 s1 h = some q → px_G (d + 106 + 1) (pX_RX11, prog_13_method_57_code, 6, (some .int)) 32 [some (.inr (.inl 51)), some (.inl x1), none, some (.inl x3), some (.inl x4), none] [.inl s0, .inl s1, .inr (.inl 51)] h q := by
  intro x1 x3 x4 s0 s1 h q e
  exact px_blk_ok (d := d + 106) (M := (pX_RX11, prog_13_method_57_code, 6, (some .int))) (C := mo_cross_orc) (code := mo_cross_code) (ld := []) (kl := []) (mo_cross_orc_ok) pX_ok_RX11 mo_cross_code_ok (px_k0) 54 32 _ _ h q e
set_option maxRecDepth 200000 in
theorem mo_cross_ok {d : Nat} {x1 : Int32} {x2 : Int32} {x3 : Int32} {h : pH} {q : Int32 × pH} (e : mo_cross x1 x2 x3 h = some q) : px_Con (d + 107) 229 [.inr (.inl 51), .inl x1, .inl x2, .inl x3] h q :=
  px_con (X := pX_RX11) (b := prog_13_method_57_code) (nL := 6) (rt := (some .int)) rfl rfl (Nat.le_of_ble_eq_true rfl) rfl (px_blk_ok (d := d + 106) (M := (pX_RX11, prog_13_method_57_code, 6, (some .int))) (C := mo_cross_orc) (code := mo_cross_code) (ld := [32]) (kl := [(32, fun ls st h => px_if (px_fit [61, 1, 0, 1, 1, 0] ls && px_fits [1, 1, 61] st) (mo_cross_32 (px_gi ls 1) (px_gi ls 3) (px_gi ls 4) (px_si st 0) (px_si st 1) h))]) (mo_cross_orc_ok) pX_ok_RX11 mo_cross_code_ok (px_k1 (px_ko (ts := [61, 1, 0, 1, 1, 0]) (ss := [1, 1, 61]) fun ls st h q e => mo_cross_32_ok _ _ _ _ _ _ _ e) px_k0) 54 0 _ _ _ q e)
/-! WordsUnsaidModel.look(III)I -/
noncomputable def mo_look_32 (x1 : Int32) (x3 : Int32) (x4 : Int32) (s0 : Int32) (s1 : Int32) (h : pH) : pR :=
  px_bind (mo_readLine0 s1 s0 x3 h) fun z1 h2 =>
  if 0 ≤ z1 then
    px_bind (mo_lay 52 68 (px_c 0) h2) fun _ h4 =>
    px_if (px_ok 0 52 x1) <|
    px_bind (mo_goes 68 x4 (h4 52 x1.toNatClampNeg) x3 h4) fun z5 h6 =>
    px_bind (mo_tellCross 68 x1 h6) fun _ h8 =>
    some (h8 51 31, h8)
  else
    some (z1, h2)
noncomputable def mo_look (x1 : Int32) (x2 : Int32) (x3 : Int32) (h : pH) : pR :=
  let h1 := px_w h 51 14 (px_c 0)
  px_bind (mo_aboardOf x1 x2 x3 h1) fun z2 h3 =>
  if z2 = 0 then
    mo_look_32 x1 x3 z2 (px_c 0) z2 h3
  else
    px_if (px_ok 0 52 x1) <|
    mo_look_32 x1 x3 z2 (h3 52 x1.toNatClampNeg) z2 h3
def mo_look_code : pCode := [(0, .aload_n 0, 1), (1, .iconst 0, 1), (2, .putfield 106, 3), (5, .aload_n 0, 1), (6, .iload_n 1, 1), (7, .iload_n 2, 1), (8, .iload_n 3, 1), (9, .invokevirtual 315, 3), (12, .istore 4, 2), (14, .aload_n 0, 1), (15, .iload 4, 2), (17, .iload 4, 2), (19, .ifCond .ne (7), 3), (22, .iconst 0, 1), (23, .goto (9), 3), (26, .aload_n 0, 1), (27, .getfield 9, 3), (30, .iload_n 1, 1), (31, .iaload, 1), (32, .iload_n 3, 1), (33, .invokevirtual 319, 3), (36, .istore 5, 2), (38, .iload 5, 2), (40, .ifCond .ge (6), 3), (43, .iload 5, 2), (45, .ireturn, 1), (46, .aload_n 0, 1), (47, .getfield 9, 3), (50, .aload_n 0, 1), (51, .getfield 63, 3), (54, .iconst 0, 1), (55, .invokestatic 295, 3), (58, .aload_n 0, 1), (59, .aload_n 0, 1), (60, .getfield 63, 3), (63, .iload 4, 2), (65, .aload_n 0, 1), (66, .getfield 9, 3), (69, .iload_n 1, 1), (70, .iaload, 1), (71, .iload_n 3, 1), (72, .invokevirtual 326, 3), (75, .pop, 1), (76, .aload_n 0, 1), (77, .aload_n 0, 1), (78, .getfield 63, 3), (81, .iload_n 1, 1), (82, .invokevirtual 330, 3), (85, .aload_n 0, 1), (86, .getfield 271, 3), (89, .ireturn, 1)]
set_option maxRecDepth 200000 in
theorem mo_look_code_ok : px_code prog_13_method_58_code mo_look_code = true := by decide +kernel
noncomputable def mo_look_orc : pC := px_orc [(227, fun a h => match a with
    | [.inr (.inl 51), .inl v1, .inl v2, .inl v3] => mo_readLine0 v1 v2 v3 h
    | _ => none), (223, fun a h => match a with
    | [.inr (.inl v0), .inr (.inl v1), .inl v2] => mo_lay v0 v1 v2 h
    | _ => none), (219, fun a h => match a with
    | [.inr (.inl 51), .inr (.inl v1), .inl v2, .inl v3, .inl v4] => mo_goes v1 v2 v3 v4 h
    | _ => none), (228, fun a h => match a with
    | [.inr (.inl 51), .inr (.inl v1), .inl v2] => mo_tellCross v1 v2 h
    | _ => none), (225, fun a h => match a with
    | [.inr (.inl 51), .inl v1, .inl v2, .inl v3] => mo_aboardOf v1 v2 v3 h
    | _ => none)]
theorem mo_look_orc_ok {d : Nat} : px_Or (d + 106) (mo_look_orc) := px_orc_ok (by
  refine px_o1 (fun a h q e => by
    dsimp only at e
    split at e
    · exact mo_readLine0_ok (d := d + 102) e
    · cases e) ?_
  refine px_o1 (fun a h q e => by
    dsimp only at e
    split at e
    · exact mo_lay_ok (d := d + 105) e
    · cases e) ?_
  refine px_o1 (fun a h q e => by
    dsimp only at e
    split at e
    · exact mo_goes_ok (d := d + 0) e
    · cases e) ?_
  refine px_o1 (fun a h q e => by
    dsimp only at e
    split at e
    · exact mo_tellCross_ok (d := d + 104) e
    · cases e) ?_
  refine px_o1 (fun a h q e => by
    dsimp only at e
    split at e
    · exact mo_aboardOf_ok (d := d + 102) e
    · cases e) ?_
  exact px_o0)
set_option maxRecDepth 200000 in
theorem mo_look_32_ok {d : Nat} : ∀ (x1 : Int32) (x3 : Int32) (x4 : Int32) (s0 : Int32) (s1 : Int32) (h : pH) (q : Int32 × pH), mo_look_32 x1 x3 x4 s0 s1 h = some q → px_G (d + 106 + 1) (pX_RX11, prog_13_method_58_code, 6, (some .int)) 32 [some (.inr (.inl 51)), some (.inl x1), none, some (.inl x3), some (.inl x4), none] [.inl s0, .inl s1, .inr (.inl 51)] h q := by
  intro x1 x3 x4 s0 s1 h q e
  exact px_blk_ok (d := d + 106) (M := (pX_RX11, prog_13_method_58_code, 6, (some .int))) (C := mo_look_orc) (code := mo_look_code) (ld := []) (kl := []) (mo_look_orc_ok) pX_ok_RX11 mo_look_code_ok (px_k0) 56 32 _ _ h q e
set_option maxRecDepth 200000 in
theorem mo_look_ok {d : Nat} {x1 : Int32} {x2 : Int32} {x3 : Int32} {h : pH} {q : Int32 × pH} (e : mo_look x1 x2 x3 h = some q) : px_Con (d + 107) 230 [.inr (.inl 51), .inl x1, .inl x2, .inl x3] h q :=
  px_con (X := pX_RX11) (b := prog_13_method_58_code) (nL := 6) (rt := (some .int)) rfl rfl (Nat.le_of_ble_eq_true rfl) rfl (px_blk_ok (d := d + 106) (M := (pX_RX11, prog_13_method_58_code, 6, (some .int))) (C := mo_look_orc) (code := mo_look_code) (ld := [32]) (kl := [(32, fun ls st h => px_if (px_fit [61, 1, 0, 1, 1, 0] ls && px_fits [1, 1, 61] st) (mo_look_32 (px_gi ls 1) (px_gi ls 3) (px_gi ls 4) (px_si st 0) (px_si st 1) h))]) (mo_look_orc_ok) pX_ok_RX11 mo_look_code_ok (px_k1 (px_ko (ts := [61, 1, 0, 1, 1, 0]) (ss := [1, 1, 61]) fun ls st h q e => mo_look_32_ok _ _ _ _ _ _ _ e) px_k0) 56 0 _ _ _ q e)
/-! WordsUnsaidModel.refusesSay(II)I -/
noncomputable def mo_refusesSay_29 (h : pH) : pR :=
  some (px_c (-1), h)
noncomputable def mo_refusesSay_83 (s0 : Int32) (h : pH) : pR :=
  some (s0, h)
noncomputable def mo_refusesSay_82 (h : pH) : pR :=
  mo_refusesSay_83 (px_c 0) h
noncomputable def mo_refusesSay (x1 : Int32) (x2 : Int32) (h : pH) : pR :=
  px_bind (mo_isPerson x1 h) fun z1 h2 =>
  if z1 = 0 then
    mo_refusesSay_29 h2
  else
    px_bind (mo_isThing x2 h2) fun z3 h4 =>
    if z3 = 0 then
      mo_refusesSay_29 h4
    else
      px_if (px_ok 0 52 ((px_c 32) + x2)) <|
      if (h4 52 ((px_c 32) + x2).toNatClampNeg) = x1 then
        px_if (px_ok 0 52 ((px_c 22) + x2)) <|
        if (h4 52 ((px_c 22) + x2).toNatClampNeg) = (px_c 1) then
          some (px_c (-3), h4)
        else
          px_if (px_ok 0 57 x2) <|
          if (h4 57 x2.toNatClampNeg) = (px_c (-1)) then
            mo_refusesSay_82 h4
          else
            px_if (px_ok 0 57 x2) <|
            px_if (px_ok 0 52 (h4 57 x2.toNatClampNeg)) <|
            px_if (px_ok 0 52 x1) <|
            if (h4 52 (h4 57 x2.toNatClampNeg).toNatClampNeg) = (h4 52 x1.toNatClampNeg) then
              mo_refusesSay_83 (px_c (-2)) h4
            else
              mo_refusesSay_82 h4
      else
        mo_refusesSay_29 h4
def mo_refusesSay_code : pCode := [(0, .aload_n 0, 1), (1, .iload_n 1, 1), (2, .invokevirtual 122, 3), (5, .ifCond .eq (24), 3), (8, .aload_n 0, 1), (9, .iload_n 2, 1), (10, .invokevirtual 251, 3), (13, .ifCond .eq (16), 3), (16, .aload_n 0, 1), (17, .getfield 9, 3), (20, .bipush (32), 2), (22, .iload_n 2, 1), (23, .iadd, 1), (24, .iaload, 1), (25, .iload_n 1, 1), (26, .if_icmp .eq (5), 3), (29, .iconst (-1), 1), (30, .ireturn, 1), (31, .aload_n 0, 1), (32, .getfield 9, 3), (35, .bipush (22), 2), (37, .iload_n 2, 1), (38, .iadd, 1), (39, .iaload, 1), (40, .iconst 1, 1), (41, .if_icmp .ne (6), 3), (44, .bipush (-3), 2), (46, .ireturn, 1), (47, .aload_n 0, 1), (48, .getfield 29, 3), (51, .iload_n 2, 1), (52, .iaload, 1), (53, .iconst (-1), 1), (54, .if_icmp .eq (28), 3), (57, .aload_n 0, 1), (58, .getfield 9, 3), (61, .aload_n 0, 1), (62, .getfield 29, 3), (65, .iload_n 2, 1), (66, .iaload, 1), (67, .iaload, 1), (68, .aload_n 0, 1), (69, .getfield 9, 3), (72, .iload_n 1, 1), (73, .iaload, 1), (74, .if_icmp .ne (8), 3), (77, .bipush (-2), 2), (79, .goto (4), 3), (82, .iconst 0, 1), (83, .ireturn, 1)]
set_option maxRecDepth 200000 in
theorem mo_refusesSay_code_ok : px_code prog_13_method_59_code mo_refusesSay_code = true := by decide +kernel
noncomputable def mo_refusesSay_orc : pC := px_orc [(179, fun a h => match a with
    | [.inr (.inl 51), .inl v1] => mo_isPerson v1 h
    | _ => none), (180, fun a h => match a with
    | [.inr (.inl 51), .inl v1] => mo_isThing v1 h
    | _ => none)]
theorem mo_refusesSay_orc_ok {d : Nat} : px_Or (d + 2) (mo_refusesSay_orc) := px_orc_ok (by
  refine px_o1 (fun a h q e => by
    dsimp only at e
    split at e
    · exact mo_isPerson_ok (d := d + 0) e
    · cases e) ?_
  refine px_o1 (fun a h q e => by
    dsimp only at e
    split at e
    · exact mo_isThing_ok (d := d + 0) e
    · cases e) ?_
  exact px_o0)
set_option maxRecDepth 200000 in
theorem mo_refusesSay_29_ok {d : Nat} : ∀ (h : pH) (q : Int32 × pH), mo_refusesSay_29 h = some q → px_G (d + 2 + 1) (pX_RX11, prog_13_method_59_code, 3, (some .int)) 29 [none, none, none] [] h q := by
  intro h q e
  exact px_blk_ok (d := d + 2) (M := (pX_RX11, prog_13_method_59_code, 3, (some .int))) (C := mo_refusesSay_orc) (code := mo_refusesSay_code) (ld := []) (kl := []) (mo_refusesSay_orc_ok) pX_ok_RX11 mo_refusesSay_code_ok (px_k0) 55 29 _ _ h q e
set_option maxRecDepth 200000 in
theorem mo_refusesSay_83_ok {d : Nat} : ∀ (s0 : Int32) (h : pH) (q : Int32 × pH), mo_refusesSay_83 s0 h = some q → px_G (d + 2 + 1) (pX_RX11, prog_13_method_59_code, 3, (some .int)) 83 [none, none, none] [.inl s0] h q := by
  intro s0 h q e
  exact px_blk_ok (d := d + 2) (M := (pX_RX11, prog_13_method_59_code, 3, (some .int))) (C := mo_refusesSay_orc) (code := mo_refusesSay_code) (ld := []) (kl := []) (mo_refusesSay_orc_ok) pX_ok_RX11 mo_refusesSay_code_ok (px_k0) 55 83 _ _ h q e
set_option maxRecDepth 200000 in
theorem mo_refusesSay_82_ok {d : Nat} : ∀ (h : pH) (q : Int32 × pH), mo_refusesSay_82 h = some q → px_G (d + 2 + 1) (pX_RX11, prog_13_method_59_code, 3, (some .int)) 82 [none, none, none] [] h q := by
  intro h q e
  exact px_blk_ok (d := d + 2) (M := (pX_RX11, prog_13_method_59_code, 3, (some .int))) (C := mo_refusesSay_orc) (code := mo_refusesSay_code) (ld := [83]) (kl := [(83, fun ls st h => px_if (px_fit [0, 0, 0] ls && px_fits [1] st) (mo_refusesSay_83 (px_si st 0) h))]) (mo_refusesSay_orc_ok) pX_ok_RX11 mo_refusesSay_code_ok (px_k1 (px_ko (ts := [0, 0, 0]) (ss := [1]) fun ls st h q e => mo_refusesSay_83_ok _ _ _ e) px_k0) 55 82 _ _ h q e
set_option maxRecDepth 200000 in
theorem mo_refusesSay_ok {d : Nat} {x1 : Int32} {x2 : Int32} {h : pH} {q : Int32 × pH} (e : mo_refusesSay x1 x2 h = some q) : px_Con (d + 3) 231 [.inr (.inl 51), .inl x1, .inl x2] h q :=
  px_con (X := pX_RX11) (b := prog_13_method_59_code) (nL := 3) (rt := (some .int)) rfl rfl (Nat.le_of_ble_eq_true rfl) rfl (px_blk_ok (d := d + 2) (M := (pX_RX11, prog_13_method_59_code, 3, (some .int))) (C := mo_refusesSay_orc) (code := mo_refusesSay_code) (ld := [82, 83, 29]) (kl := [(82, fun ls st h => px_if (px_fit [0, 0, 0] ls && px_fits [] st) (mo_refusesSay_82 h)), (83, fun ls st h => px_if (px_fit [0, 0, 0] ls && px_fits [1] st) (mo_refusesSay_83 (px_si st 0) h)), (29, fun ls st h => px_if (px_fit [0, 0, 0] ls && px_fits [] st) (mo_refusesSay_29 h))]) (mo_refusesSay_orc_ok) pX_ok_RX11 mo_refusesSay_code_ok (px_k1 (px_ko (ts := [0, 0, 0]) (ss := []) fun ls st h q e => mo_refusesSay_82_ok _ _ e) (px_k1 (px_ko (ts := [0, 0, 0]) (ss := [1]) fun ls st h q e => mo_refusesSay_83_ok _ _ _ e) (px_k1 (px_ko (ts := [0, 0, 0]) (ss := []) fun ls st h q e => mo_refusesSay_29_ok _ _ e) px_k0))) 55 0 _ _ _ q e)
/-! WordsUnsaidModel.goSay(II)I -/
noncomputable def mo_goSay (x1 : Int32) (x2 : Int32) (h : pH) : pR :=
  px_if (px_ok 0 52 x1) <|
  px_bind (mo_peopleAt (h 52 x1.toNatClampNeg) h) fun z1 h2 =>
  px_if (px_ok 0 52 ((px_c 42) + x2)) <|
  px_bind (jn_bitCount ((z1 &&& ((h2 52 ((px_c 42) + x2).toNatClampNeg) ^^^ (px_c (-1)))) &&& (((px_c 1) <<< (x1 &&& 31)) ^^^ (px_c (-1)))) h2) fun z3 h4 =>
  px_if (px_ok 0 52 ((px_c 22) + x2)) <|
  let h5 := px_w h4 52 ((px_c 22) + x2).toNatClampNeg (px_c 1)
  px_if (px_ok 0 52 ((px_c 42) + x2)) <|
  px_if (px_ok 0 52 ((px_c 42) + x2)) <|
  let h6 := px_w h5 52 ((px_c 42) + x2).toNatClampNeg ((h5 52 ((px_c 42) + x2).toNatClampNeg) ||| z1)
  some (z3, h6)
def mo_goSay_code : pCode := [(0, .aload_n 0, 1), (1, .aload_n 0, 1), (2, .getfield 9, 3), (5, .iload_n 1, 1), (6, .iaload, 1), (7, .invokevirtual 334, 3), (10, .istore_n 3, 1), (11, .iload_n 3, 1), (12, .aload_n 0, 1), (13, .getfield 9, 3), (16, .bipush (42), 2), (18, .iload_n 2, 1), (19, .iadd, 1), (20, .iaload, 1), (21, .iconst (-1), 1), (22, .ixor, 1), (23, .iand, 1), (24, .iconst 1, 1), (25, .iload_n 1, 1), (26, .ishl, 1), (27, .iconst (-1), 1), (28, .ixor, 1), (29, .iand, 1), (30, .invokestatic 222, 3), (33, .istore 4, 2), (35, .aload_n 0, 1), (36, .getfield 9, 3), (39, .bipush (22), 2), (41, .iload_n 2, 1), (42, .iadd, 1), (43, .iconst 1, 1), (44, .iastore, 1), (45, .aload_n 0, 1), (46, .getfield 9, 3), (49, .bipush (42), 2), (51, .iload_n 2, 1), (52, .iadd, 1), (53, .dup2, 1), (54, .iaload, 1), (55, .iload_n 3, 1), (56, .ior, 1), (57, .iastore, 1), (58, .iload 4, 2), (60, .ireturn, 1)]
set_option maxRecDepth 200000 in
theorem mo_goSay_code_ok : px_code prog_13_method_60_code mo_goSay_code = true := by decide +kernel
noncomputable def mo_goSay_orc : pC := px_orc [(207, fun a h => match a with
    | [.inr (.inl 51), .inl v1] => mo_peopleAt v1 h
    | _ => none), (279, fun a h => match a with
    | [.inl v0] => jn_bitCount v0 h
    | _ => none)]
theorem mo_goSay_orc_ok {d : Nat} : px_Or (d + 1) (mo_goSay_orc) := px_orc_ok (by
  refine px_o1 (fun a h q e => by
    dsimp only at e
    split at e
    · exact mo_peopleAt_ok (d := d + 0) e
    · cases e) ?_
  refine px_o1 (fun a h q e => by
    dsimp only at e
    split at e
    · exact jn_bitCount_ok (d := d + 0) e
    · cases e) ?_
  exact px_o0)
set_option maxRecDepth 200000 in
theorem mo_goSay_ok {d : Nat} {x1 : Int32} {x2 : Int32} {h : pH} {q : Int32 × pH} (e : mo_goSay x1 x2 h = some q) : px_Con (d + 2) 232 [.inr (.inl 51), .inl x1, .inl x2] h q :=
  px_con (X := pX_RX11) (b := prog_13_method_60_code) (nL := 5) (rt := (some .int)) rfl rfl (Nat.le_of_ble_eq_true rfl) rfl (px_blk_ok (d := d + 1) (M := (pX_RX11, prog_13_method_60_code, 5, (some .int))) (C := mo_goSay_orc) (code := mo_goSay_code) (ld := []) (kl := []) (mo_goSay_orc_ok) pX_ok_RX11 mo_goSay_code_ok (px_k0) 49 0 _ _ _ q e)
/-! WordsUnsaidModel.say(II)I -/
noncomputable def mo_say (x1 : Int32) (x2 : Int32) (h : pH) : pR :=
  let h1 := px_w h 51 14 (px_c 0)
  px_bind (mo_refusesSay x1 x2 h1) fun z2 h3 =>
  if 0 ≤ z2 then
    px_bind (mo_remember 52 h3) fun _ h5 =>
    px_bind (mo_goSay x1 x2 h5) fun z6 h7 =>
    some (z6, h7)
  else
    some (z2, h3)
def mo_say_code : pCode := [(0, .aload_n 0, 1), (1, .iconst 0, 1), (2, .putfield 106, 3), (5, .aload_n 0, 1), (6, .iload_n 1, 1), (7, .iload_n 2, 1), (8, .invokevirtual 337, 3), (11, .istore_n 3, 1), (12, .iload_n 3, 1), (13, .ifCond .ge (5), 3), (16, .iload_n 3, 1), (17, .ireturn, 1), (18, .aload_n 0, 1), (19, .aload_n 0, 1), (20, .getfield 9, 3), (23, .invokevirtual 322, 3), (26, .aload_n 0, 1), (27, .iload_n 1, 1), (28, .iload_n 2, 1), (29, .invokevirtual 340, 3), (32, .ireturn, 1)]
set_option maxRecDepth 200000 in
theorem mo_say_code_ok : px_code prog_13_method_61_code mo_say_code = true := by decide +kernel
noncomputable def mo_say_orc : pC := px_orc [(231, fun a h => match a with
    | [.inr (.inl 51), .inl v1, .inl v2] => mo_refusesSay v1 v2 h
    | _ => none), (224, fun a h => match a with
    | [.inr (.inl 51), .inr (.inl v1)] => mo_remember v1 h
    | _ => none), (232, fun a h => match a with
    | [.inr (.inl 51), .inl v1, .inl v2] => mo_goSay v1 v2 h
    | _ => none)]
theorem mo_say_orc_ok {d : Nat} : px_Or (d + 3) (mo_say_orc) := px_orc_ok (by
  refine px_o1 (fun a h q e => by
    dsimp only at e
    split at e
    · exact mo_refusesSay_ok (d := d + 0) e
    · cases e) ?_
  refine px_o1 (fun a h q e => by
    dsimp only at e
    split at e
    · exact mo_remember_ok (d := d + 1) e
    · cases e) ?_
  refine px_o1 (fun a h q e => by
    dsimp only at e
    split at e
    · exact mo_goSay_ok (d := d + 1) e
    · cases e) ?_
  exact px_o0)
set_option maxRecDepth 200000 in
theorem mo_say_ok {d : Nat} {x1 : Int32} {x2 : Int32} {h : pH} {q : Int32 × pH} (e : mo_say x1 x2 h = some q) : px_Con (d + 4) 233 [.inr (.inl 51), .inl x1, .inl x2] h q :=
  px_con (X := pX_RX11) (b := prog_13_method_61_code) (nL := 4) (rt := (some .int)) rfl rfl (Nat.le_of_ble_eq_true rfl) rfl (px_blk_ok (d := d + 3) (M := (pX_RX11, prog_13_method_61_code, 4, (some .int))) (C := mo_say_orc) (code := mo_say_code) (ld := []) (kl := []) (mo_say_orc_ok) pX_ok_RX11 mo_say_code_ok (px_k0) 26 0 _ _ _ q e)
/-! WordsUnsaidModel.refusesWhisper(III)I -/
noncomputable def mo_refusesWhisper_58 (h : pH) : pR :=
  some (px_c (-1), h)
noncomputable def mo_refusesWhisper_81 (s0 : Int32) (h : pH) : pR :=
  some (s0, h)
noncomputable def mo_refusesWhisper_60 (x1 : Int32) (x2 : Int32) (h : pH) : pR :=
  px_if (px_ok 0 52 x1) <|
  px_if (px_ok 0 52 x2) <|
  if (h 52 x1.toNatClampNeg) = (h 52 x2.toNatClampNeg) then
    mo_refusesWhisper_81 (px_c 0) h
  else
    mo_refusesWhisper_81 (px_c (-2)) h
noncomputable def mo_refusesWhisper (x1 : Int32) (x2 : Int32) (x3 : Int32) (h : pH) : pR :=
  px_bind (mo_areTwo x1 x2 h) fun z1 h2 =>
  if z1 = 0 then
    mo_refusesWhisper_58 h2
  else
    px_bind (mo_isThing x3 h2) fun z3 h4 =>
    if z3 = 0 then
      mo_refusesWhisper_58 h4
    else
      px_if (px_ok 0 52 ((px_c 42) + x3)) <|
      px_bind (mo_has (h4 52 ((px_c 42) + x3).toNatClampNeg) x1 h4) fun z5 h6 =>
      if z5 = 0 then
        mo_refusesWhisper_58 h6
      else
        px_if (px_ok 0 52 ((px_c 22) + x3)) <|
        if (h6 52 ((px_c 22) + x3).toNatClampNeg) = 0 then
          px_if (px_ok 0 52 ((px_c 32) + x3)) <|
          if (h6 52 ((px_c 32) + x3).toNatClampNeg) = x1 then
            mo_refusesWhisper_60 x1 x2 h6
          else
            mo_refusesWhisper_58 h6
        else
          mo_refusesWhisper_60 x1 x2 h6
def mo_refusesWhisper_code : pCode := [(0, .aload_n 0, 1), (1, .iload_n 1, 1), (2, .iload_n 2, 1), (3, .invokevirtual 299, 3), (6, .ifCond .eq (52), 3), (9, .aload_n 0, 1), (10, .iload_n 3, 1), (11, .invokevirtual 251, 3), (14, .ifCond .eq (44), 3), (17, .aload_n 0, 1), (18, .getfield 9, 3), (21, .bipush (42), 2), (23, .iload_n 3, 1), (24, .iadd, 1), (25, .iaload, 1), (26, .iload_n 1, 1), (27, .invokestatic 227, 3), (30, .ifCond .eq (28), 3), (33, .aload_n 0, 1), (34, .getfield 9, 3), (37, .bipush (22), 2), (39, .iload_n 3, 1), (40, .iadd, 1), (41, .iaload, 1), (42, .ifCond .ne (18), 3), (45, .aload_n 0, 1), (46, .getfield 9, 3), (49, .bipush (32), 2), (51, .iload_n 3, 1), (52, .iadd, 1), (53, .iaload, 1), (54, .iload_n 1, 1), (55, .if_icmp .eq (5), 3), (58, .iconst (-1), 1), (59, .ireturn, 1), (60, .aload_n 0, 1), (61, .getfield 9, 3), (64, .iload_n 1, 1), (65, .iaload, 1), (66, .aload_n 0, 1), (67, .getfield 9, 3), (70, .iload_n 2, 1), (71, .iaload, 1), (72, .if_icmp .ne (7), 3), (75, .iconst 0, 1), (76, .goto (5), 3), (79, .bipush (-2), 2), (81, .ireturn, 1)]
set_option maxRecDepth 200000 in
theorem mo_refusesWhisper_code_ok : px_code prog_13_method_62_code mo_refusesWhisper_code = true := by decide +kernel
noncomputable def mo_refusesWhisper_orc : pC := px_orc [(181, fun a h => match a with
    | [.inr (.inl 51), .inl v1, .inl v2] => mo_areTwo v1 v2 h
    | _ => none), (180, fun a h => match a with
    | [.inr (.inl 51), .inl v1] => mo_isThing v1 h
    | _ => none), (176, fun a h => match a with
    | [.inl v0, .inl v1] => mo_has v0 v1 h
    | _ => none)]
theorem mo_refusesWhisper_orc_ok {d : Nat} : px_Or (d + 3) (mo_refusesWhisper_orc) := px_orc_ok (by
  refine px_o1 (fun a h q e => by
    dsimp only at e
    split at e
    · exact mo_areTwo_ok (d := d + 0) e
    · cases e) ?_
  refine px_o1 (fun a h q e => by
    dsimp only at e
    split at e
    · exact mo_isThing_ok (d := d + 1) e
    · cases e) ?_
  refine px_o1 (fun a h q e => by
    dsimp only at e
    split at e
    · exact mo_has_ok (d := d + 2) e
    · cases e) ?_
  exact px_o0)
set_option maxRecDepth 200000 in
theorem mo_refusesWhisper_58_ok {d : Nat} : ∀ (h : pH) (q : Int32 × pH), mo_refusesWhisper_58 h = some q → px_G (d + 3 + 1) (pX_RX11, prog_13_method_62_code, 4, (some .int)) 58 [none, none, none, none] [] h q := by
  intro h q e
  exact px_blk_ok (d := d + 3) (M := (pX_RX11, prog_13_method_62_code, 4, (some .int))) (C := mo_refusesWhisper_orc) (code := mo_refusesWhisper_code) (ld := []) (kl := []) (mo_refusesWhisper_orc_ok) pX_ok_RX11 mo_refusesWhisper_code_ok (px_k0) 53 58 _ _ h q e
set_option maxRecDepth 200000 in
theorem mo_refusesWhisper_81_ok {d : Nat} : ∀ (s0 : Int32) (h : pH) (q : Int32 × pH), mo_refusesWhisper_81 s0 h = some q → px_G (d + 3 + 1) (pX_RX11, prog_13_method_62_code, 4, (some .int)) 81 [none, none, none, none] [.inl s0] h q := by
  intro s0 h q e
  exact px_blk_ok (d := d + 3) (M := (pX_RX11, prog_13_method_62_code, 4, (some .int))) (C := mo_refusesWhisper_orc) (code := mo_refusesWhisper_code) (ld := []) (kl := []) (mo_refusesWhisper_orc_ok) pX_ok_RX11 mo_refusesWhisper_code_ok (px_k0) 53 81 _ _ h q e
set_option maxRecDepth 200000 in
theorem mo_refusesWhisper_60_ok {d : Nat} : ∀ (x1 : Int32) (x2 : Int32) (h : pH) (q : Int32 × pH), mo_refusesWhisper_60 x1 x2 h = some q → px_G (d + 3 + 1) (pX_RX11, prog_13_method_62_code, 4, (some .int)) 60 [some (.inr (.inl 51)), some (.inl x1), some (.inl x2), none] [] h q := by
  intro x1 x2 h q e
  exact px_blk_ok (d := d + 3) (M := (pX_RX11, prog_13_method_62_code, 4, (some .int))) (C := mo_refusesWhisper_orc) (code := mo_refusesWhisper_code) (ld := [81]) (kl := [(81, fun ls st h => px_if (px_fit [0, 0, 0, 0] ls && px_fits [1] st) (mo_refusesWhisper_81 (px_si st 0) h))]) (mo_refusesWhisper_orc_ok) pX_ok_RX11 mo_refusesWhisper_code_ok (px_k1 (px_ko (ts := [0, 0, 0, 0]) (ss := [1]) fun ls st h q e => mo_refusesWhisper_81_ok _ _ _ e) px_k0) 53 60 _ _ h q e
set_option maxRecDepth 200000 in
theorem mo_refusesWhisper_ok {d : Nat} {x1 : Int32} {x2 : Int32} {x3 : Int32} {h : pH} {q : Int32 × pH} (e : mo_refusesWhisper x1 x2 x3 h = some q) : px_Con (d + 4) 234 [.inr (.inl 51), .inl x1, .inl x2, .inl x3] h q :=
  px_con (X := pX_RX11) (b := prog_13_method_62_code) (nL := 4) (rt := (some .int)) rfl rfl (Nat.le_of_ble_eq_true rfl) rfl (px_blk_ok (d := d + 3) (M := (pX_RX11, prog_13_method_62_code, 4, (some .int))) (C := mo_refusesWhisper_orc) (code := mo_refusesWhisper_code) (ld := [60, 58]) (kl := [(60, fun ls st h => px_if (px_fit [61, 1, 1, 0] ls && px_fits [] st) (mo_refusesWhisper_60 (px_gi ls 1) (px_gi ls 2) h)), (58, fun ls st h => px_if (px_fit [0, 0, 0, 0] ls && px_fits [] st) (mo_refusesWhisper_58 h))]) (mo_refusesWhisper_orc_ok) pX_ok_RX11 mo_refusesWhisper_code_ok (px_k1 (px_ko (ts := [61, 1, 1, 0]) (ss := []) fun ls st h q e => mo_refusesWhisper_60_ok _ _ _ _ e) (px_k1 (px_ko (ts := [0, 0, 0, 0]) (ss := []) fun ls st h q e => mo_refusesWhisper_58_ok _ _ e) px_k0)) 53 0 _ _ _ q e)
/-! WordsUnsaidModel.goWhisper(II)I -/
noncomputable def mo_goWhisper_21 (x1 : Int32) (x2 : Int32) (s0 : Int32) (h : pH) : pR :=
  px_if (px_ok 0 52 ((px_c 42) + x2)) <|
  px_if (px_ok 0 52 ((px_c 42) + x2)) <|
  let h1 := px_w h 52 ((px_c 42) + x2).toNatClampNeg ((h 52 ((px_c 42) + x2).toNatClampNeg) ||| ((px_c 1) <<< (x1 &&& 31)))
  some (s0, h1)
noncomputable def mo_goWhisper (x1 : Int32) (x2 : Int32) (h : pH) : pR :=
  px_if (px_ok 0 52 ((px_c 42) + x2)) <|
  px_bind (mo_has (h 52 ((px_c 42) + x2).toNatClampNeg) x1 h) fun z1 h2 =>
  if z1 = 0 then
    mo_goWhisper_21 x1 x2 (px_c 1) h2
  else
    mo_goWhisper_21 x1 x2 (px_c 0) h2
def mo_goWhisper_code : pCode := [(0, .aload_n 0, 1), (1, .getfield 9, 3), (4, .bipush (42), 2), (6, .iload_n 2, 1), (7, .iadd, 1), (8, .iaload, 1), (9, .iload_n 1, 1), (10, .invokestatic 227, 3), (13, .ifCond .eq (7), 3), (16, .iconst 0, 1), (17, .goto (4), 3), (20, .iconst 1, 1), (21, .istore_n 3, 1), (22, .aload_n 0, 1), (23, .getfield 9, 3), (26, .bipush (42), 2), (28, .iload_n 2, 1), (29, .iadd, 1), (30, .dup2, 1), (31, .iaload, 1), (32, .iconst 1, 1), (33, .iload_n 1, 1), (34, .ishl, 1), (35, .ior, 1), (36, .iastore, 1), (37, .iload_n 3, 1), (38, .ireturn, 1)]
set_option maxRecDepth 200000 in
theorem mo_goWhisper_code_ok : px_code prog_13_method_63_code mo_goWhisper_code = true := by decide +kernel
noncomputable def mo_goWhisper_orc : pC := px_orc [(176, fun a h => match a with
    | [.inl v0, .inl v1] => mo_has v0 v1 h
    | _ => none)]
theorem mo_goWhisper_orc_ok {d : Nat} : px_Or (d + 1) (mo_goWhisper_orc) := px_orc_ok (by
  refine px_o1 (fun a h q e => by
    dsimp only at e
    split at e
    · exact mo_has_ok (d := d + 0) e
    · cases e) ?_
  exact px_o0)
set_option maxRecDepth 200000 in
theorem mo_goWhisper_21_ok {d : Nat} : ∀ (x1 : Int32) (x2 : Int32) (s0 : Int32) (h : pH) (q : Int32 × pH), mo_goWhisper_21 x1 x2 s0 h = some q → px_G (d + 1 + 1) (pX_RX11, prog_13_method_63_code, 4, (some .int)) 21 [some (.inr (.inl 51)), some (.inl x1), some (.inl x2), none] [.inl s0] h q := by
  intro x1 x2 s0 h q e
  exact px_blk_ok (d := d + 1) (M := (pX_RX11, prog_13_method_63_code, 4, (some .int))) (C := mo_goWhisper_orc) (code := mo_goWhisper_code) (ld := []) (kl := []) (mo_goWhisper_orc_ok) pX_ok_RX11 mo_goWhisper_code_ok (px_k0) 32 21 _ _ h q e
set_option maxRecDepth 200000 in
theorem mo_goWhisper_ok {d : Nat} {x1 : Int32} {x2 : Int32} {h : pH} {q : Int32 × pH} (e : mo_goWhisper x1 x2 h = some q) : px_Con (d + 2) 235 [.inr (.inl 51), .inl x1, .inl x2] h q :=
  px_con (X := pX_RX11) (b := prog_13_method_63_code) (nL := 4) (rt := (some .int)) rfl rfl (Nat.le_of_ble_eq_true rfl) rfl (px_blk_ok (d := d + 1) (M := (pX_RX11, prog_13_method_63_code, 4, (some .int))) (C := mo_goWhisper_orc) (code := mo_goWhisper_code) (ld := [21]) (kl := [(21, fun ls st h => px_if (px_fit [61, 1, 1, 0] ls && px_fits [1] st) (mo_goWhisper_21 (px_gi ls 1) (px_gi ls 2) (px_si st 0) h))]) (mo_goWhisper_orc_ok) pX_ok_RX11 mo_goWhisper_code_ok (px_k1 (px_ko (ts := [61, 1, 1, 0]) (ss := [1]) fun ls st h q e => mo_goWhisper_21_ok _ _ _ _ _ e) px_k0) 32 0 _ _ _ q e)
/-! WordsUnsaidModel.whisper(III)I -/
noncomputable def mo_whisper (x1 : Int32) (x2 : Int32) (x3 : Int32) (h : pH) : pR :=
  let h1 := px_w h 51 14 (px_c 0)
  px_bind (mo_refusesWhisper x1 x2 x3 h1) fun z2 h3 =>
  if 0 ≤ z2 then
    px_bind (mo_remember 52 h3) fun _ h5 =>
    px_bind (mo_goWhisper x2 x3 h5) fun z6 h7 =>
    some (z6, h7)
  else
    some (z2, h3)
def mo_whisper_code : pCode := [(0, .aload_n 0, 1), (1, .iconst 0, 1), (2, .putfield 106, 3), (5, .aload_n 0, 1), (6, .iload_n 1, 1), (7, .iload_n 2, 1), (8, .iload_n 3, 1), (9, .invokevirtual 343, 3), (12, .istore 4, 2), (14, .iload 4, 2), (16, .ifCond .ge (6), 3), (19, .iload 4, 2), (21, .ireturn, 1), (22, .aload_n 0, 1), (23, .aload_n 0, 1), (24, .getfield 9, 3), (27, .invokevirtual 322, 3), (30, .aload_n 0, 1), (31, .iload_n 2, 1), (32, .iload_n 3, 1), (33, .invokevirtual 346, 3), (36, .ireturn, 1)]
set_option maxRecDepth 200000 in
theorem mo_whisper_code_ok : px_code prog_13_method_64_code mo_whisper_code = true := by decide +kernel
noncomputable def mo_whisper_orc : pC := px_orc [(234, fun a h => match a with
    | [.inr (.inl 51), .inl v1, .inl v2, .inl v3] => mo_refusesWhisper v1 v2 v3 h
    | _ => none), (224, fun a h => match a with
    | [.inr (.inl 51), .inr (.inl v1)] => mo_remember v1 h
    | _ => none), (235, fun a h => match a with
    | [.inr (.inl 51), .inl v1, .inl v2] => mo_goWhisper v1 v2 h
    | _ => none)]
theorem mo_whisper_orc_ok {d : Nat} : px_Or (d + 4) (mo_whisper_orc) := px_orc_ok (by
  refine px_o1 (fun a h q e => by
    dsimp only at e
    split at e
    · exact mo_refusesWhisper_ok (d := d + 0) e
    · cases e) ?_
  refine px_o1 (fun a h q e => by
    dsimp only at e
    split at e
    · exact mo_remember_ok (d := d + 2) e
    · cases e) ?_
  refine px_o1 (fun a h q e => by
    dsimp only at e
    split at e
    · exact mo_goWhisper_ok (d := d + 2) e
    · cases e) ?_
  exact px_o0)
set_option maxRecDepth 200000 in
theorem mo_whisper_ok {d : Nat} {x1 : Int32} {x2 : Int32} {x3 : Int32} {h : pH} {q : Int32 × pH} (e : mo_whisper x1 x2 x3 h = some q) : px_Con (d + 5) 236 [.inr (.inl 51), .inl x1, .inl x2, .inl x3] h q :=
  px_con (X := pX_RX11) (b := prog_13_method_64_code) (nL := 5) (rt := (some .int)) rfl rfl (Nat.le_of_ble_eq_true rfl) rfl (px_blk_ok (d := d + 4) (M := (pX_RX11, prog_13_method_64_code, 5, (some .int))) (C := mo_whisper_orc) (code := mo_whisper_code) (ld := []) (kl := []) (mo_whisper_orc_ok) pX_ok_RX11 mo_whisper_code_ok (px_k0) 27 0 _ _ _ q e)
/-! WordsUnsaidModel.priceOf(I)I -/
noncomputable def mo_priceOf (x1 : Int32) (h : pH) : pR :=
  px_if (px_ok 0 52 ((px_c 12) + x1)) <|
  if (px_c 5) = 0 then none else
  some (((h 52 ((px_c 12) + x1).toNatClampNeg) + (px_c 4)) / (px_c 5), h)
def mo_priceOf_code : pCode := [(0, .aload_n 0, 1), (1, .getfield 9, 3), (4, .bipush (12), 2), (6, .iload_n 1, 1), (7, .iadd, 1), (8, .iaload, 1), (9, .iconst 4, 1), (10, .iadd, 1), (11, .iconst 5, 1), (12, .idiv, 1), (13, .ireturn, 1)]
set_option maxRecDepth 200000 in
theorem mo_priceOf_code_ok : px_code prog_13_method_65_code mo_priceOf_code = true := by decide +kernel
noncomputable def mo_priceOf_orc : pC := px_orc []
theorem mo_priceOf_orc_ok {d : Nat} : px_Or (d + 0) (mo_priceOf_orc) := px_orc_ok (by
  exact px_o0)
set_option maxRecDepth 200000 in
theorem mo_priceOf_ok {d : Nat} {x1 : Int32} {h : pH} {q : Int32 × pH} (e : mo_priceOf x1 h = some q) : px_Con (d + 1) 237 [.inr (.inl 51), .inl x1] h q :=
  px_con (X := pX_RX11) (b := prog_13_method_65_code) (nL := 2) (rt := (some .int)) rfl rfl (Nat.le_of_ble_eq_true rfl) rfl (px_blk_ok (d := d + 0) (M := (pX_RX11, prog_13_method_65_code, 2, (some .int))) (C := mo_priceOf_orc) (code := mo_priceOf_code) (ld := []) (kl := []) (mo_priceOf_orc_ok) pX_ok_RX11 mo_priceOf_code_ok (px_k0) 16 0 _ _ _ q e)
/-! WordsUnsaidModel.refusesSell(III)I -/
noncomputable def mo_refusesSell_55 (h : pH) : pR :=
  some (px_c (-1), h)
noncomputable def mo_refusesSell_128 (s0 : Int32) (h : pH) : pR :=
  some (s0, h)
noncomputable def mo_refusesSell_122 (h : pH) : pR :=
  mo_refusesSell_128 (px_c (-3)) h
noncomputable def mo_refusesSell (x1 : Int32) (x2 : Int32) (x3 : Int32) (h : pH) : pR :=
  px_bind (mo_areTwo x1 x2 h) fun z1 h2 =>
  if z1 = 0 then
    mo_refusesSell_55 h2
  else
    px_bind (mo_isThing x3 h2) fun z3 h4 =>
    if z3 = 0 then
      mo_refusesSell_55 h4
    else
      px_if (px_ok 0 52 ((px_c 32) + x3)) <|
      if (h4 52 ((px_c 32) + x3).toNatClampNeg) = x1 then
        px_if (px_ok 0 52 ((px_c 22) + x3)) <|
        if (h4 52 ((px_c 22) + x3).toNatClampNeg) = (px_c 1) then
          mo_refusesSell_55 h4
        else
          px_if (px_ok 0 52 ((px_c 12) + x3)) <|
          if (h4 52 ((px_c 12) + x3).toNatClampNeg) = 0 then
            mo_refusesSell_55 h4
          else
            px_if (px_ok 0 52 x1) <|
            px_if (px_ok 0 52 x2) <|
            if (h4 52 x1.toNatClampNeg) = (h4 52 x2.toNatClampNeg) then
              px_if (px_ok 0 52 ((px_c 6) + x2)) <|
              px_bind (mo_priceOf x3 h4) fun z5 h6 =>
              if (h4 52 ((px_c 6) + x2).toNatClampNeg) < z5 then
                mo_refusesSell_122 h6
              else
                px_if (px_ok 0 57 x3) <|
                if (h6 57 x3.toNatClampNeg) = x2 then
                  mo_refusesSell_122 h6
                else
                  px_if (px_ok 0 52 ((px_c 6) + x1)) <|
                  px_bind (mo_priceOf x3 h6) fun z7 h8 =>
                  if ((h6 52 ((px_c 6) + x1).toNatClampNeg) + z7) ≤ (px_c 99) then
                    mo_refusesSell_128 (px_c 0) h8
                  else
                    mo_refusesSell_122 h8
            else
              some (px_c (-2), h4)
      else
        mo_refusesSell_55 h4
def mo_refusesSell_code : pCode := [(0, .aload_n 0, 1), (1, .iload_n 1, 1), (2, .iload_n 2, 1), (3, .invokevirtual 299, 3), (6, .ifCond .eq (49), 3), (9, .aload_n 0, 1), (10, .iload_n 3, 1), (11, .invokevirtual 251, 3), (14, .ifCond .eq (41), 3), (17, .aload_n 0, 1), (18, .getfield 9, 3), (21, .bipush (32), 2), (23, .iload_n 3, 1), (24, .iadd, 1), (25, .iaload, 1), (26, .iload_n 1, 1), (27, .if_icmp .ne (28), 3), (30, .aload_n 0, 1), (31, .getfield 9, 3), (34, .bipush (22), 2), (36, .iload_n 3, 1), (37, .iadd, 1), (38, .iaload, 1), (39, .iconst 1, 1), (40, .if_icmp .eq (15), 3), (43, .aload_n 0, 1), (44, .getfield 9, 3), (47, .bipush (12), 2), (49, .iload_n 3, 1), (50, .iadd, 1), (51, .iaload, 1), (52, .ifCond .ne (5), 3), (55, .iconst (-1), 1), (56, .ireturn, 1), (57, .aload_n 0, 1), (58, .getfield 9, 3), (61, .iload_n 1, 1), (62, .iaload, 1), (63, .aload_n 0, 1), (64, .getfield 9, 3), (67, .iload_n 2, 1), (68, .iaload, 1), (69, .if_icmp .eq (6), 3), (72, .bipush (-2), 2), (74, .ireturn, 1), (75, .aload_n 0, 1), (76, .getfield 9, 3), (79, .bipush (6), 2), (81, .iload_n 2, 1), (82, .iadd, 1), (83, .iaload, 1), (84, .aload_n 0, 1), (85, .iload_n 3, 1), (86, .invokevirtual 349, 3), (89, .if_icmp .lt (33), 3), (92, .aload_n 0, 1), (93, .getfield 29, 3), (96, .iload_n 3, 1), (97, .iaload, 1), (98, .iload_n 2, 1), (99, .if_icmp .eq (23), 3), (102, .aload_n 0, 1), (103, .getfield 9, 3), (106, .bipush (6), 2), (108, .iload_n 1, 1), (109, .iadd, 1), (110, .iaload, 1), (111, .aload_n 0, 1), (112, .iload_n 3, 1), (113, .invokevirtual 349, 3), (116, .iadd, 1), (117, .bipush (99), 2), (119, .if_icmp .le (8), 3), (122, .bipush (-3), 2), (124, .goto (4), 3), (127, .iconst 0, 1), (128, .ireturn, 1)]
set_option maxRecDepth 200000 in
theorem mo_refusesSell_code_ok : px_code prog_13_method_66_code mo_refusesSell_code = true := by decide +kernel
noncomputable def mo_refusesSell_orc : pC := px_orc [(181, fun a h => match a with
    | [.inr (.inl 51), .inl v1, .inl v2] => mo_areTwo v1 v2 h
    | _ => none), (180, fun a h => match a with
    | [.inr (.inl 51), .inl v1] => mo_isThing v1 h
    | _ => none), (237, fun a h => match a with
    | [.inr (.inl 51), .inl v1] => mo_priceOf v1 h
    | _ => none)]
theorem mo_refusesSell_orc_ok {d : Nat} : px_Or (d + 3) (mo_refusesSell_orc) := px_orc_ok (by
  refine px_o1 (fun a h q e => by
    dsimp only at e
    split at e
    · exact mo_areTwo_ok (d := d + 0) e
    · cases e) ?_
  refine px_o1 (fun a h q e => by
    dsimp only at e
    split at e
    · exact mo_isThing_ok (d := d + 1) e
    · cases e) ?_
  refine px_o1 (fun a h q e => by
    dsimp only at e
    split at e
    · exact mo_priceOf_ok (d := d + 2) e
    · cases e) ?_
  exact px_o0)
set_option maxRecDepth 200000 in
theorem mo_refusesSell_55_ok {d : Nat} : ∀ (h : pH) (q : Int32 × pH), mo_refusesSell_55 h = some q → px_G (d + 3 + 1) (pX_RX11, prog_13_method_66_code, 4, (some .int)) 55 [none, none, none, none] [] h q := by
  intro h q e
  exact px_blk_ok (d := d + 3) (M := (pX_RX11, prog_13_method_66_code, 4, (some .int))) (C := mo_refusesSell_orc) (code := mo_refusesSell_code) (ld := []) (kl := []) (mo_refusesSell_orc_ok) pX_ok_RX11 mo_refusesSell_code_ok (px_k0) 82 55 _ _ h q e
set_option maxRecDepth 200000 in
theorem mo_refusesSell_128_ok {d : Nat} : ∀ (s0 : Int32) (h : pH) (q : Int32 × pH), mo_refusesSell_128 s0 h = some q → px_G (d + 3 + 1) (pX_RX11, prog_13_method_66_code, 4, (some .int)) 128 [none, none, none, none] [.inl s0] h q := by
  intro s0 h q e
  exact px_blk_ok (d := d + 3) (M := (pX_RX11, prog_13_method_66_code, 4, (some .int))) (C := mo_refusesSell_orc) (code := mo_refusesSell_code) (ld := []) (kl := []) (mo_refusesSell_orc_ok) pX_ok_RX11 mo_refusesSell_code_ok (px_k0) 82 128 _ _ h q e
set_option maxRecDepth 200000 in
theorem mo_refusesSell_122_ok {d : Nat} : ∀ (h : pH) (q : Int32 × pH), mo_refusesSell_122 h = some q → px_G (d + 3 + 1) (pX_RX11, prog_13_method_66_code, 4, (some .int)) 122 [none, none, none, none] [] h q := by
  intro h q e
  exact px_blk_ok (d := d + 3) (M := (pX_RX11, prog_13_method_66_code, 4, (some .int))) (C := mo_refusesSell_orc) (code := mo_refusesSell_code) (ld := [128]) (kl := [(128, fun ls st h => px_if (px_fit [0, 0, 0, 0] ls && px_fits [1] st) (mo_refusesSell_128 (px_si st 0) h))]) (mo_refusesSell_orc_ok) pX_ok_RX11 mo_refusesSell_code_ok (px_k1 (px_ko (ts := [0, 0, 0, 0]) (ss := [1]) fun ls st h q e => mo_refusesSell_128_ok _ _ _ e) px_k0) 82 122 _ _ h q e
set_option maxRecDepth 200000 in
theorem mo_refusesSell_ok {d : Nat} {x1 : Int32} {x2 : Int32} {x3 : Int32} {h : pH} {q : Int32 × pH} (e : mo_refusesSell x1 x2 x3 h = some q) : px_Con (d + 4) 238 [.inr (.inl 51), .inl x1, .inl x2, .inl x3] h q :=
  px_con (X := pX_RX11) (b := prog_13_method_66_code) (nL := 4) (rt := (some .int)) rfl rfl (Nat.le_of_ble_eq_true rfl) rfl (px_blk_ok (d := d + 3) (M := (pX_RX11, prog_13_method_66_code, 4, (some .int))) (C := mo_refusesSell_orc) (code := mo_refusesSell_code) (ld := [122, 128, 55]) (kl := [(122, fun ls st h => px_if (px_fit [0, 0, 0, 0] ls && px_fits [] st) (mo_refusesSell_122 h)), (128, fun ls st h => px_if (px_fit [0, 0, 0, 0] ls && px_fits [1] st) (mo_refusesSell_128 (px_si st 0) h)), (55, fun ls st h => px_if (px_fit [0, 0, 0, 0] ls && px_fits [] st) (mo_refusesSell_55 h))]) (mo_refusesSell_orc_ok) pX_ok_RX11 mo_refusesSell_code_ok (px_k1 (px_ko (ts := [0, 0, 0, 0]) (ss := []) fun ls st h q e => mo_refusesSell_122_ok _ _ e) (px_k1 (px_ko (ts := [0, 0, 0, 0]) (ss := [1]) fun ls st h q e => mo_refusesSell_128_ok _ _ _ e) (px_k1 (px_ko (ts := [0, 0, 0, 0]) (ss := []) fun ls st h q e => mo_refusesSell_55_ok _ _ e) px_k0))) 82 0 _ _ _ q e)
/-! WordsUnsaidModel.goSell(III)I -/
noncomputable def mo_goSell (x1 : Int32) (x2 : Int32) (x3 : Int32) (h : pH) : pR :=
  px_bind (mo_priceOf x3 h) fun z1 h2 =>
  px_if (px_ok 0 52 ((px_c 6) + x2)) <|
  px_if (px_ok 0 52 ((px_c 6) + x2)) <|
  let h3 := px_w h2 52 ((px_c 6) + x2).toNatClampNeg ((h2 52 ((px_c 6) + x2).toNatClampNeg) - z1)
  px_if (px_ok 0 52 ((px_c 6) + x1)) <|
  px_if (px_ok 0 52 ((px_c 6) + x1)) <|
  let h4 := px_w h3 52 ((px_c 6) + x1).toNatClampNeg ((h3 52 ((px_c 6) + x1).toNatClampNeg) + z1)
  px_if (px_ok 0 52 ((px_c 32) + x3)) <|
  let h5 := px_w h4 52 ((px_c 32) + x3).toNatClampNeg x2
  px_if (px_ok 0 52 ((px_c 42) + x3)) <|
  px_if (px_ok 0 52 ((px_c 42) + x3)) <|
  let h6 := px_w h5 52 ((px_c 42) + x3).toNatClampNeg ((h5 52 ((px_c 42) + x3).toNatClampNeg) ||| ((px_c 1) <<< (x2 &&& 31)))
  some (z1, h6)
def mo_goSell_code : pCode := [(0, .aload_n 0, 1), (1, .iload_n 3, 1), (2, .invokevirtual 349, 3), (5, .istore 4, 2), (7, .aload_n 0, 1), (8, .getfield 9, 3), (11, .bipush (6), 2), (13, .iload_n 2, 1), (14, .iadd, 1), (15, .dup2, 1), (16, .iaload, 1), (17, .iload 4, 2), (19, .isub, 1), (20, .iastore, 1), (21, .aload_n 0, 1), (22, .getfield 9, 3), (25, .bipush (6), 2), (27, .iload_n 1, 1), (28, .iadd, 1), (29, .dup2, 1), (30, .iaload, 1), (31, .iload 4, 2), (33, .iadd, 1), (34, .iastore, 1), (35, .aload_n 0, 1), (36, .getfield 9, 3), (39, .bipush (32), 2), (41, .iload_n 3, 1), (42, .iadd, 1), (43, .iload_n 2, 1), (44, .iastore, 1), (45, .aload_n 0, 1), (46, .getfield 9, 3), (49, .bipush (42), 2), (51, .iload_n 3, 1), (52, .iadd, 1), (53, .dup2, 1), (54, .iaload, 1), (55, .iconst 1, 1), (56, .iload_n 2, 1), (57, .ishl, 1), (58, .ior, 1), (59, .iastore, 1), (60, .iload 4, 2), (62, .ireturn, 1)]
set_option maxRecDepth 200000 in
theorem mo_goSell_code_ok : px_code prog_13_method_67_code mo_goSell_code = true := by decide +kernel
noncomputable def mo_goSell_orc : pC := px_orc [(237, fun a h => match a with
    | [.inr (.inl 51), .inl v1] => mo_priceOf v1 h
    | _ => none)]
theorem mo_goSell_orc_ok {d : Nat} : px_Or (d + 1) (mo_goSell_orc) := px_orc_ok (by
  refine px_o1 (fun a h q e => by
    dsimp only at e
    split at e
    · exact mo_priceOf_ok (d := d + 0) e
    · cases e) ?_
  exact px_o0)
set_option maxRecDepth 200000 in
theorem mo_goSell_ok {d : Nat} {x1 : Int32} {x2 : Int32} {x3 : Int32} {h : pH} {q : Int32 × pH} (e : mo_goSell x1 x2 x3 h = some q) : px_Con (d + 2) 239 [.inr (.inl 51), .inl x1, .inl x2, .inl x3] h q :=
  px_con (X := pX_RX11) (b := prog_13_method_67_code) (nL := 5) (rt := (some .int)) rfl rfl (Nat.le_of_ble_eq_true rfl) rfl (px_blk_ok (d := d + 1) (M := (pX_RX11, prog_13_method_67_code, 5, (some .int))) (C := mo_goSell_orc) (code := mo_goSell_code) (ld := []) (kl := []) (mo_goSell_orc_ok) pX_ok_RX11 mo_goSell_code_ok (px_k0) 50 0 _ _ _ q e)
/-! WordsUnsaidModel.sell(III)I -/
noncomputable def mo_sell (x1 : Int32) (x2 : Int32) (x3 : Int32) (h : pH) : pR :=
  let h1 := px_w h 51 14 (px_c 0)
  px_bind (mo_refusesSell x1 x2 x3 h1) fun z2 h3 =>
  if 0 ≤ z2 then
    px_bind (mo_remember 52 h3) fun _ h5 =>
    px_bind (mo_goSell x1 x2 x3 h5) fun z6 h7 =>
    some (z6, h7)
  else
    some (z2, h3)
def mo_sell_code : pCode := [(0, .aload_n 0, 1), (1, .iconst 0, 1), (2, .putfield 106, 3), (5, .aload_n 0, 1), (6, .iload_n 1, 1), (7, .iload_n 2, 1), (8, .iload_n 3, 1), (9, .invokevirtual 352, 3), (12, .istore 4, 2), (14, .iload 4, 2), (16, .ifCond .ge (6), 3), (19, .iload 4, 2), (21, .ireturn, 1), (22, .aload_n 0, 1), (23, .aload_n 0, 1), (24, .getfield 9, 3), (27, .invokevirtual 322, 3), (30, .aload_n 0, 1), (31, .iload_n 1, 1), (32, .iload_n 2, 1), (33, .iload_n 3, 1), (34, .invokevirtual 355, 3), (37, .ireturn, 1)]
set_option maxRecDepth 200000 in
theorem mo_sell_code_ok : px_code prog_13_method_68_code mo_sell_code = true := by decide +kernel
noncomputable def mo_sell_orc : pC := px_orc [(238, fun a h => match a with
    | [.inr (.inl 51), .inl v1, .inl v2, .inl v3] => mo_refusesSell v1 v2 v3 h
    | _ => none), (224, fun a h => match a with
    | [.inr (.inl 51), .inr (.inl v1)] => mo_remember v1 h
    | _ => none), (239, fun a h => match a with
    | [.inr (.inl 51), .inl v1, .inl v2, .inl v3] => mo_goSell v1 v2 v3 h
    | _ => none)]
theorem mo_sell_orc_ok {d : Nat} : px_Or (d + 4) (mo_sell_orc) := px_orc_ok (by
  refine px_o1 (fun a h q e => by
    dsimp only at e
    split at e
    · exact mo_refusesSell_ok (d := d + 0) e
    · cases e) ?_
  refine px_o1 (fun a h q e => by
    dsimp only at e
    split at e
    · exact mo_remember_ok (d := d + 2) e
    · cases e) ?_
  refine px_o1 (fun a h q e => by
    dsimp only at e
    split at e
    · exact mo_goSell_ok (d := d + 2) e
    · cases e) ?_
  exact px_o0)
set_option maxRecDepth 200000 in
theorem mo_sell_ok {d : Nat} {x1 : Int32} {x2 : Int32} {x3 : Int32} {h : pH} {q : Int32 × pH} (e : mo_sell x1 x2 x3 h = some q) : px_Con (d + 5) 240 [.inr (.inl 51), .inl x1, .inl x2, .inl x3] h q :=
  px_con (X := pX_RX11) (b := prog_13_method_68_code) (nL := 5) (rt := (some .int)) rfl rfl (Nat.le_of_ble_eq_true rfl) rfl (px_blk_ok (d := d + 4) (M := (pX_RX11, prog_13_method_68_code, 5, (some .int))) (C := mo_sell_orc) (code := mo_sell_code) (ld := []) (kl := []) (mo_sell_orc_ok) pX_ok_RX11 mo_sell_code_ok (px_k0) 28 0 _ _ _ q e)
/-! WordsUnsaidModel.actCross(IIII)Z -/
noncomputable def mo_actCross_156 (h : pH) : pR :=
  px_bz (px_c 1) h
noncomputable def mo_actCross_25 : Nat → Int32 → Int32 → Int32 → Int32 → Int32 → pH → pR
  | 0, _, _, _, _, _, _ => none
  | n + 1, x1, x2, x4, x5, x6, h =>
    px_if (px_ok 0 69 (x1 + (px_c 4))) <|
    if (h 69 (x1 + (px_c 4)).toNatClampNeg) ≤ x6 then
      px_bind (mo_wordsIn 52 h) fun z1 h2 =>
      px_if (px_ok 0 52 x2) <|
      px_bind (mo_distance (h2 52 x2.toNatClampNeg) x4 h2) fun z3 h4 =>
      if z3 ≤ z1 then
        px_if (px_ok 0 52 x2) <|
        px_bind (mo_goes 52 x5 (h4 52 x2.toNatClampNeg) x4 h4) fun z5 h6 =>
        if z5 = 0 then
          let h7 := px_w h6 51 39 ((h6 51 39) + (px_c 1))
          mo_actCross_156 h7
        else
          mo_actCross_156 h6
      else
        px_bz (px_c 0) h4
    else
      px_if (px_ok 0 69 ((x1 + (px_c 5)) + x6)) <|
      px_bind (mo_canLine 52 (h 69 ((x1 + (px_c 5)) + x6).toNatClampNeg) x5 h) fun z8 h9 =>
      if z8 = 0 then
        px_bz (px_c 0) h9
      else
        px_if (px_ok 0 69 ((x1 + (px_c 5)) + x6)) <|
        px_if (px_ok 0 65 (h9 51 30)) <|
        let h10 := px_w h9 65 (h9 51 30).toNatClampNeg (h9 69 ((x1 + (px_c 5)) + x6).toNatClampNeg)
        let h11 := px_w h10 51 30 ((h10 51 30) + (px_c 1))
        mo_actCross_25 n x1 x2 x4 x5 (x6 + px_c 1) h11
noncomputable def mo_actCross (x1 : Int32) (x2 : Int32) (x3 : Int32) (x4 : Int32) (h : pH) : pR :=
  px_bind (mo_aboardOf x2 x3 x4 h) fun z1 h2 =>
  if z1 = 0 then
    px_bz (px_c 0) h2
  else
    let h3 := px_w h2 51 30 (px_c 0)
    mo_actCross_25 px_F x1 x2 x4 z1 (px_c 0) h3
def mo_actCross_code : pCode := [(0, .aload_n 0, 1), (1, .iload_n 2, 1), (2, .iload_n 3, 1), (3, .iload 4, 2), (5, .invokevirtual 315, 3), (8, .istore 5, 2), (10, .iload 5, 2), (12, .ifCond .ne (5), 3), (15, .iconst 0, 1), (16, .ireturn, 1), (17, .aload_n 0, 1), (18, .iconst 0, 1), (19, .putfield 292, 3), (22, .iconst 0, 1), (23, .istore 6, 2), (25, .iload 6, 2), (27, .aload_n 0, 1), (28, .getfield 66, 3), (31, .iload_n 1, 1), (32, .iconst 4, 1), (33, .iadd, 1), (34, .iaload, 1), (35, .if_icmp .ge (65), 3), (38, .aload_n 0, 1), (39, .aload_n 0, 1), (40, .getfield 9, 3), (43, .aload_n 0, 1), (44, .getfield 66, 3), (47, .iload_n 1, 1), (48, .iconst 5, 1), (49, .iadd, 1), (50, .iload 6, 2), (52, .iadd, 1), (53, .iaload, 1), (54, .iload 5, 2), (56, .invokevirtual 305, 3), (59, .ifCond .ne (5), 3), (62, .iconst 0, 1), (63, .ireturn, 1), (64, .aload_n 0, 1), (65, .getfield 54, 3), (68, .aload_n 0, 1), (69, .getfield 292, 3), (72, .aload_n 0, 1), (73, .getfield 66, 3), (76, .iload_n 1, 1), (77, .iconst 5, 1), (78, .iadd, 1), (79, .iload 6, 2), (81, .iadd, 1), (82, .iaload, 1), (83, .iastore, 1), (84, .aload_n 0, 1), (85, .dup, 1), (86, .getfield 292, 3), (89, .iconst 1, 1), (90, .iadd, 1), (91, .putfield 292, 3), (94, .iinc 6 (1), 3), (97, .goto (-72), 3), (100, .aload_n 0, 1), (101, .aload_n 0, 1), (102, .getfield 9, 3), (105, .invokevirtual 309, 3), (108, .aload_n 0, 1), (109, .aload_n 0, 1), (110, .getfield 9, 3), (113, .iload_n 2, 1), (114, .iaload, 1), (115, .iload 4, 2), (117, .invokevirtual 268, 3), (120, .if_icmp .ge (5), 3), (123, .iconst 0, 1), (124, .ireturn, 1), (125, .aload_n 0, 1), (126, .aload_n 0, 1), (127, .getfield 9, 3), (130, .iload 5, 2), (132, .aload_n 0, 1), (133, .getfield 9, 3), (136, .iload_n 2, 1), (137, .iaload, 1), (138, .iload 4, 2), (140, .invokevirtual 326, 3), (143, .ifCond .ne (13), 3), (146, .aload_n 0, 1), (147, .dup, 1), (148, .getfield 361, 3), (151, .iconst 1, 1), (152, .iadd, 1), (153, .putfield 361, 3), (156, .iconst 1, 1), (157, .ireturn, 1)]
set_option maxRecDepth 200000 in
theorem mo_actCross_code_ok : px_code prog_13_method_72_code mo_actCross_code = true := by decide +kernel
noncomputable def mo_actCross_orc : pC := px_orc [(222, fun a h => match a with
    | [.inr (.inl 51), .inr (.inl v1)] => mo_wordsIn v1 h
    | _ => none), (218, fun a h => match a with
    | [.inr (.inl 51), .inl v1, .inl v2] => mo_distance v1 v2 h
    | _ => none), (219, fun a h => match a with
    | [.inr (.inl 51), .inr (.inl v1), .inl v2, .inl v3, .inl v4] => mo_goes v1 v2 v3 v4 h
    | _ => none), (226, fun a h => match a with
    | [.inr (.inl 51), .inr (.inl v1), .inl v2, .inl v3] => mo_canLine v1 v2 v3 h
    | _ => none), (225, fun a h => match a with
    | [.inr (.inl 51), .inl v1, .inl v2, .inl v3] => mo_aboardOf v1 v2 v3 h
    | _ => none)]
theorem mo_actCross_orc_ok {d : Nat} : px_Or (d + 106) (mo_actCross_orc) := px_orc_ok (by
  refine px_o1 (fun a h q e => by
    dsimp only at e
    split at e
    · exact mo_wordsIn_ok (d := d + 105) e
    · cases e) ?_
  refine px_o1 (fun a h q e => by
    dsimp only at e
    split at e
    · exact mo_distance_ok (d := d + 104) e
    · cases e) ?_
  refine px_o1 (fun a h q e => by
    dsimp only at e
    split at e
    · exact mo_goes_ok (d := d + 0) e
    · cases e) ?_
  refine px_o1 (fun a h q e => by
    dsimp only at e
    split at e
    · exact mo_canLine_ok (d := d + 103) e
    · cases e) ?_
  refine px_o1 (fun a h q e => by
    dsimp only at e
    split at e
    · exact mo_aboardOf_ok (d := d + 102) e
    · cases e) ?_
  exact px_o0)
set_option maxRecDepth 200000 in
theorem mo_actCross_156_ok {d : Nat} : ∀ (h : pH) (q : Int32 × pH), mo_actCross_156 h = some q → px_G (d + 106 + 1) (pX_RX11, prog_13_method_72_code, 7, (some .boolean)) 156 [none, none, none, none, none, none, none] [] h q := by
  intro h q e
  exact px_blk_ok (d := d + 106) (M := (pX_RX11, prog_13_method_72_code, 7, (some .boolean))) (C := mo_actCross_orc) (code := mo_actCross_code) (ld := []) (kl := []) (mo_actCross_orc_ok) pX_ok_RX11 mo_actCross_code_ok (px_k0) 98 156 _ _ h q e
set_option maxRecDepth 200000 in
theorem mo_actCross_25_ok {d : Nat} : ∀ (n : Nat) (x1 : Int32) (x2 : Int32) (x4 : Int32) (x5 : Int32) (x6 : Int32) (h : pH) (q : Int32 × pH), mo_actCross_25 n x1 x2 x4 x5 x6 h = some q → px_G (d + 106 + 1) (pX_RX11, prog_13_method_72_code, 7, (some .boolean)) 25 [some (.inr (.inl 51)), some (.inl x1), some (.inl x2), none, some (.inl x4), some (.inl x5), some (.inl x6)] [] h q := by
  intro n
  induction n with
  | zero =>
    intro x1 x2 x4 x5 x6 h q e
    cases e
  | succ n ih =>
    intro x1 x2 x4 x5 x6 h q e
    exact px_blk_ok (d := d + 106) (M := (pX_RX11, prog_13_method_72_code, 7, (some .boolean))) (C := mo_actCross_orc) (code := mo_actCross_code) (ld := [25, 156]) (kl := [(25, fun ls st h => px_if (px_fit [61, 1, 1, 0, 1, 1, 1] ls && px_fits [] st) (mo_actCross_25 n (px_gi ls 1) (px_gi ls 2) (px_gi ls 4) (px_gi ls 5) (px_gi ls 6) h)), (156, fun ls st h => px_if (px_fit [0, 0, 0, 0, 0, 0, 0] ls && px_fits [] st) (mo_actCross_156 h))]) (mo_actCross_orc_ok) pX_ok_RX11 mo_actCross_code_ok (px_k1 (px_ko (ts := [61, 1, 1, 0, 1, 1, 1]) (ss := []) fun ls st h q e => ih _ _ _ _ _ _ _ e) (px_k1 (px_ko (ts := [0, 0, 0, 0, 0, 0, 0]) (ss := []) fun ls st h q e => mo_actCross_156_ok _ _ e) px_k0)) 98 25 _ _ h q e
set_option maxRecDepth 200000 in
theorem mo_actCross_ok {d : Nat} {x1 : Int32} {x2 : Int32} {x3 : Int32} {x4 : Int32} {h : pH} {q : Int32 × pH} (e : mo_actCross x1 x2 x3 x4 h = some q) : px_Con (d + 107) 244 [.inr (.inl 51), .inl x1, .inl x2, .inl x3, .inl x4] h q :=
  px_con (X := pX_RX11) (b := prog_13_method_72_code) (nL := 7) (rt := (some .boolean)) rfl rfl (Nat.le_of_ble_eq_true rfl) rfl (px_blk_ok (d := d + 106) (M := (pX_RX11, prog_13_method_72_code, 7, (some .boolean))) (C := mo_actCross_orc) (code := mo_actCross_code) (ld := [25]) (kl := [(25, fun ls st h => px_if (px_fit [61, 1, 1, 0, 1, 1, 1] ls && px_fits [] st) (mo_actCross_25 px_F (px_gi ls 1) (px_gi ls 2) (px_gi ls 4) (px_gi ls 5) (px_gi ls 6) h))]) (mo_actCross_orc_ok) pX_ok_RX11 mo_actCross_code_ok (px_k1 (px_ko (ts := [61, 1, 1, 0, 1, 1, 1]) (ss := []) fun ls st h q e => mo_actCross_25_ok _ _ _ _ _ _ _ _ e) px_k0) 98 0 _ _ _ q e)
/-! WordsUnsaidModel.act(I)Z -/
noncomputable def mo_act (x1 : Int32) (h : pH) : pR :=
  px_if (px_ok 0 69 (x1 + (px_c 1))) <|
  let y2_1 := h 69 (x1 + (px_c 1)).toNatClampNeg
  px_if (px_ok 0 69 (x1 + (px_c 2))) <|
  let y3_2 := h 69 (x1 + (px_c 2)).toNatClampNeg
  px_if (px_ok 0 69 (x1 + (px_c 3))) <|
  let y4_3 := h 69 (x1 + (px_c 3)).toNatClampNeg
  px_if (px_ok 0 69 x1) <|
  if (h 69 x1.toNatClampNeg) = px_c 99 then
    px_bind (mo_actCross x1 y2_1 y3_2 y4_3 h) fun z4 h5 =>
    px_bz z4 h5
  else
  if (h 69 x1.toNatClampNeg) = px_c 115 then
    px_bind (mo_refusesSay y2_1 y4_3 h) fun z6 h7 =>
    if 0 ≤ z6 then
      px_bind (mo_goSay y2_1 y4_3 h7) fun z8 h9 =>
      px_bz (px_c 1) h9
    else
      px_bz (px_c 0) h7
  else
  if (h 69 x1.toNatClampNeg) = px_c 118 then
    px_bind (mo_refusesSell y2_1 y3_2 y4_3 h) fun z10 h11 =>
    if 0 ≤ z10 then
      px_bind (mo_goSell y2_1 y3_2 y4_3 h11) fun z12 h13 =>
      px_bz (px_c 1) h13
    else
      px_bz (px_c 0) h11
  else
    px_bind (mo_refusesWhisper y2_1 y3_2 y4_3 h) fun z14 h15 =>
    if 0 ≤ z14 then
      px_bind (mo_goWhisper y3_2 y4_3 h15) fun z16 h17 =>
      px_bz (px_c 1) h17
    else
      px_bz (px_c 0) h15
def mo_act_code : pCode := [(0, .aload_n 0, 1), (1, .getfield 66, 3), (4, .iload_n 1, 1), (5, .iconst 1, 1), (6, .iadd, 1), (7, .iaload, 1), (8, .istore_n 2, 1), (9, .aload_n 0, 1), (10, .getfield 66, 3), (13, .iload_n 1, 1), (14, .iconst 2, 1), (15, .iadd, 1), (16, .iaload, 1), (17, .istore_n 3, 1), (18, .aload_n 0, 1), (19, .getfield 66, 3), (22, .iload_n 1, 1), (23, .iconst 3, 1), (24, .iadd, 1), (25, .iaload, 1), (26, .istore 4, 2), (28, .aload_n 0, 1), (29, .getfield 66, 3), (32, .iload_n 1, 1), (33, .iaload, 1), (34, .lookupswitch (90) #[(99, 34), (115, 44), (118, 66)], 34), (68, .aload_n 0, 1), (69, .iload_n 1, 1), (70, .iload_n 2, 1), (71, .iload_n 3, 1), (72, .iload 4, 2), (74, .invokevirtual 367, 3), (77, .ireturn, 1), (78, .aload_n 0, 1), (79, .iload_n 2, 1), (80, .iload 4, 2), (82, .invokevirtual 337, 3), (85, .ifCond .ge (5), 3), (88, .iconst 0, 1), (89, .ireturn, 1), (90, .aload_n 0, 1), (91, .iload_n 2, 1), (92, .iload 4, 2), (94, .invokevirtual 340, 3), (97, .pop, 1), (98, .iconst 1, 1), (99, .ireturn, 1), (100, .aload_n 0, 1), (101, .iload_n 2, 1), (102, .iload_n 3, 1), (103, .iload 4, 2), (105, .invokevirtual 352, 3), (108, .ifCond .ge (5), 3), (111, .iconst 0, 1), (112, .ireturn, 1), (113, .aload_n 0, 1), (114, .iload_n 2, 1), (115, .iload_n 3, 1), (116, .iload 4, 2), (118, .invokevirtual 355, 3), (121, .pop, 1), (122, .iconst 1, 1), (123, .ireturn, 1), (124, .aload_n 0, 1), (125, .iload_n 2, 1), (126, .iload_n 3, 1), (127, .iload 4, 2), (129, .invokevirtual 343, 3), (132, .ifCond .ge (5), 3), (135, .iconst 0, 1), (136, .ireturn, 1), (137, .aload_n 0, 1), (138, .iload_n 3, 1), (139, .iload 4, 2), (141, .invokevirtual 346, 3), (144, .pop, 1), (145, .iconst 1, 1), (146, .ireturn, 1)]
set_option maxRecDepth 200000 in
theorem mo_act_code_ok : px_code prog_13_method_71_code mo_act_code = true := by decide +kernel
noncomputable def mo_act_orc : pC := px_orc [(244, fun a h => match a with
    | [.inr (.inl 51), .inl v1, .inl v2, .inl v3, .inl v4] => mo_actCross v1 v2 v3 v4 h
    | _ => none), (231, fun a h => match a with
    | [.inr (.inl 51), .inl v1, .inl v2] => mo_refusesSay v1 v2 h
    | _ => none), (232, fun a h => match a with
    | [.inr (.inl 51), .inl v1, .inl v2] => mo_goSay v1 v2 h
    | _ => none), (238, fun a h => match a with
    | [.inr (.inl 51), .inl v1, .inl v2, .inl v3] => mo_refusesSell v1 v2 v3 h
    | _ => none), (239, fun a h => match a with
    | [.inr (.inl 51), .inl v1, .inl v2, .inl v3] => mo_goSell v1 v2 v3 h
    | _ => none), (234, fun a h => match a with
    | [.inr (.inl 51), .inl v1, .inl v2, .inl v3] => mo_refusesWhisper v1 v2 v3 h
    | _ => none), (235, fun a h => match a with
    | [.inr (.inl 51), .inl v1, .inl v2] => mo_goWhisper v1 v2 h
    | _ => none)]
theorem mo_act_orc_ok {d : Nat} : px_Or (d + 107) (mo_act_orc) := px_orc_ok (by
  refine px_o1 (fun a h q e => by
    dsimp only at e
    split at e
    · exact mo_actCross_ok (d := d + 0) e
    · cases e) ?_
  refine px_o1 (fun a h q e => by
    dsimp only at e
    split at e
    · exact mo_refusesSay_ok (d := d + 104) e
    · cases e) ?_
  refine px_o1 (fun a h q e => by
    dsimp only at e
    split at e
    · exact mo_goSay_ok (d := d + 105) e
    · cases e) ?_
  refine px_o1 (fun a h q e => by
    dsimp only at e
    split at e
    · exact mo_refusesSell_ok (d := d + 103) e
    · cases e) ?_
  refine px_o1 (fun a h q e => by
    dsimp only at e
    split at e
    · exact mo_goSell_ok (d := d + 105) e
    · cases e) ?_
  refine px_o1 (fun a h q e => by
    dsimp only at e
    split at e
    · exact mo_refusesWhisper_ok (d := d + 103) e
    · cases e) ?_
  refine px_o1 (fun a h q e => by
    dsimp only at e
    split at e
    · exact mo_goWhisper_ok (d := d + 105) e
    · cases e) ?_
  exact px_o0)
set_option maxRecDepth 200000 in
theorem mo_act_ok {d : Nat} {x1 : Int32} {h : pH} {q : Int32 × pH} (e : mo_act x1 h = some q) : px_Con (d + 108) 243 [.inr (.inl 51), .inl x1] h q :=
  px_con (X := pX_RX11) (b := prog_13_method_71_code) (nL := 5) (rt := (some .boolean)) rfl rfl (Nat.le_of_ble_eq_true rfl) rfl (px_blk_ok (d := d + 107) (M := (pX_RX11, prog_13_method_71_code, 5, (some .boolean))) (C := mo_act_orc) (code := mo_act_code) (ld := []) (kl := []) (mo_act_orc_ok) pX_ok_RX11 mo_act_code_ok (px_k0) 83 0 _ _ _ q e)
/-! WordsUnsaidModel.readAct(I)V -/
noncomputable def mo_readAct_272 (h : pH) : pR :=
  some (0, h)
noncomputable def mo_readAct_226 (x1 : Int32) (x3 : Int32) (h : pH) : pR :=
  px_if (px_ok 0 69 (x1 + (px_c 4))) <|
  let h1 := px_w h 69 (x1 + (px_c 4)).toNatClampNeg x3
  mo_readAct_272 h1
noncomputable def mo_readAct_214 (x1 : Int32) (x3 : Int32) (h : pH) : pR :=
  if x3 = 0 then
    px_bind (mo_fault (h 51 18) h) fun _ h2 =>
    mo_readAct_226 x1 x3 h2
  else
    mo_readAct_226 x1 x3 h
noncomputable def mo_readAct_162 : Nat → Int32 → Int32 → pH → pR
  | 0, _, _, _ => none
  | n + 1, x1, x3, h =>
    px_bind (mo_fine h) fun z1 h2 =>
    if z1 = 0 then
      mo_readAct_214 x1 x3 h2
    else
      px_bind (mo_here h2) fun z3 h4 =>
      px_bind (mo_in z3 (px_c 113) (px_c 122) h4) fun z5 h6 =>
      if z5 = 0 then
        mo_readAct_214 x1 x3 h6
      else
        if (px_c 6) ≤ x3 then
          mo_readAct_214 x1 x3 h6
        else
          px_bind (mo_letter (px_c 113) (px_c 10) (px_c (-1)) h6) fun z7 h8 =>
          px_if (px_ok 0 69 ((x1 + (px_c 5)) + x3)) <|
          let h9 := px_w h8 69 ((x1 + (px_c 5)) + x3).toNatClampNeg z7
          mo_readAct_162 n x1 (x3 + px_c 1) h9
noncomputable def mo_readAct_139 (x1 : Int32) (s0 : Int32) (s1 : Int32) (h : pH) : pR :=
  px_if (px_ok 0 69 s1) <|
  let h1 := px_w h 69 s1.toNatClampNeg s0
  px_bind (mo_digit (px_c 0) (px_c 1) h1) fun z2 h3 =>
  px_if (px_ok 0 69 (x1 + (px_c 3))) <|
  let h4 := px_w h3 69 (x1 + (px_c 3)).toNatClampNeg z2
  px_bind (mo_need (px_c 58) h4) fun _ h6 =>
  mo_readAct_162 px_F x1 (px_c 0) h6
noncomputable def mo_readAct_37 (x1 : Int32) (x2 : Int32) (h : pH) : pR :=
  let h1 := px_w h 51 18 ((h 51 18) + (px_c 1))
  px_if (px_ok 0 69 x1) <|
  let h2 := px_w h1 69 x1.toNatClampNeg x2
  px_bind (mo_letter (px_c 97) (px_c 6) (px_c (-1)) h2) fun z3 h4 =>
  px_if (px_ok 0 69 (x1 + (px_c 1))) <|
  let h5 := px_w h4 69 (x1 + (px_c 1)).toNatClampNeg z3
  if x2 = (px_c 115) then
    px_bind (mo_letter (px_c 113) (px_c 10) (px_c (-1)) h5) fun z6 h7 =>
    px_if (px_ok 0 69 (x1 + (px_c 3))) <|
    let h8 := px_w h7 69 (x1 + (px_c 3)).toNatClampNeg z6
    mo_readAct_272 h8
  else
    if x2 = (px_c 99) then
      px_bind (mo_passes (px_c 43) h5) fun z9 h10 =>
      if z9 = 0 then
        mo_readAct_139 x1 (px_c (-1)) (x1 + (px_c 2)) h10
      else
        px_if (px_ok 0 69 (x1 + (px_c 1))) <|
        px_bind (mo_letter (px_c 97) (px_c 6) (h10 69 (x1 + (px_c 1)).toNatClampNeg) h10) fun z11 h12 =>
        mo_readAct_139 x1 z11 (x1 + (px_c 2)) h12
    else
      px_bind (mo_letter (px_c 97) (px_c 6) (px_c (-1)) h5) fun z13 h14 =>
      px_if (px_ok 0 69 (x1 + (px_c 2))) <|
      let h15 := px_w h14 69 (x1 + (px_c 2)).toNatClampNeg z13
      px_bind (mo_letter (px_c 113) (px_c 10) (px_c (-1)) h15) fun z16 h17 =>
      px_if (px_ok 0 69 (x1 + (px_c 3))) <|
      let h18 := px_w h17 69 (x1 + (px_c 3)).toNatClampNeg z16
      mo_readAct_272 h18
noncomputable def mo_readAct (x1 : Int32) (h : pH) : pR :=
  px_bind (mo_here h) fun z1 h2 =>
  if z1 = (px_c 99) then
    mo_readAct_37 x1 z1 h2
  else
    if z1 = (px_c 115) then
      mo_readAct_37 x1 z1 h2
    else
      if z1 = (px_c 118) then
        mo_readAct_37 x1 z1 h2
      else
        if z1 = (px_c 119) then
          mo_readAct_37 x1 z1 h2
        else
          px_bind (mo_fault (h2 51 18) h2) fun _ h4 =>
          mo_readAct_37 x1 z1 h4
def mo_readAct_code : pCode := [(0, .aload_n 0, 1), (1, .invokevirtual 151, 3), (4, .istore_n 2, 1), (5, .iload_n 2, 1), (6, .bipush (99), 2), (8, .if_icmp .eq (29), 3), (11, .iload_n 2, 1), (12, .bipush (115), 2), (14, .if_icmp .eq (23), 3), (17, .iload_n 2, 1), (18, .bipush (118), 2), (20, .if_icmp .eq (17), 3), (23, .iload_n 2, 1), (24, .bipush (119), 2), (26, .if_icmp .eq (11), 3), (29, .aload_n 0, 1), (30, .aload_n 0, 1), (31, .getfield 141, 3), (34, .invokevirtual 159, 3), (37, .aload_n 0, 1), (38, .dup, 1), (39, .getfield 141, 3), (42, .iconst 1, 1), (43, .iadd, 1), (44, .putfield 141, 3), (47, .aload_n 0, 1), (48, .getfield 66, 3), (51, .iload_n 1, 1), (52, .iload_n 2, 1), (53, .iastore, 1), (54, .aload_n 0, 1), (55, .getfield 66, 3), (58, .iload_n 1, 1), (59, .iconst 1, 1), (60, .iadd, 1), (61, .aload_n 0, 1), (62, .bipush (97), 2), (64, .bipush (6), 2), (66, .iconst (-1), 1), (67, .invokevirtual 189, 3), (70, .iastore, 1), (71, .iload_n 2, 1), (72, .bipush (115), 2), (74, .if_icmp .ne (23), 3), (77, .aload_n 0, 1), (78, .getfield 66, 3), (81, .iload_n 1, 1), (82, .iconst 3, 1), (83, .iadd, 1), (84, .aload_n 0, 1), (85, .bipush (113), 2), (87, .bipush (10), 2), (89, .iconst (-1), 1), (90, .invokevirtual 189, 3), (93, .iastore, 1), (94, .goto (178), 3), (97, .iload_n 2, 1), (98, .bipush (99), 2), (100, .if_icmp .ne (138), 3), (103, .aload_n 0, 1), (104, .getfield 66, 3), (107, .iload_n 1, 1), (108, .iconst 2, 1), (109, .iadd, 1), (110, .aload_n 0, 1), (111, .bipush (43), 2), (113, .invokevirtual 155, 3), (116, .ifCond .eq (22), 3), (119, .aload_n 0, 1), (120, .bipush (97), 2), (122, .bipush (6), 2), (124, .aload_n 0, 1), (125, .getfield 66, 3), (128, .iload_n 1, 1), (129, .iconst 1, 1), (130, .iadd, 1), (131, .iaload, 1), (132, .invokevirtual 189, 3), (135, .goto (4), 3), (138, .iconst (-1), 1), (139, .iastore, 1), (140, .aload_n 0, 1), (141, .getfield 66, 3), (144, .iload_n 1, 1), (145, .iconst 3, 1), (146, .iadd, 1), (147, .aload_n 0, 1), (148, .iconst 0, 1), (149, .iconst 1, 1), (150, .invokevirtual 163, 3), (153, .iastore, 1), (154, .aload_n 0, 1), (155, .bipush (58), 2), (157, .invokevirtual 193, 3), (160, .iconst 0, 1), (161, .istore_n 3, 1), (162, .aload_n 0, 1), (163, .invokevirtual 147, 3), (166, .ifCond .eq (48), 3), (169, .aload_n 0, 1), (170, .invokevirtual 151, 3), (173, .bipush (113), 2), (175, .bipush (122), 2), (177, .invokestatic 115, 3), (180, .ifCond .eq (34), 3), (183, .iload_n 3, 1), (184, .bipush (6), 2), (186, .if_icmp .ge (28), 3), (189, .aload_n 0, 1), (190, .getfield 66, 3), (193, .iload_n 1, 1), (194, .iconst 5, 1), (195, .iadd, 1), (196, .iload_n 3, 1), (197, .iadd, 1), (198, .aload_n 0, 1), (199, .bipush (113), 2), (201, .bipush (10), 2), (203, .iconst (-1), 1), (204, .invokevirtual 189, 3), (207, .iastore, 1), (208, .iinc 3 (1), 3), (211, .goto (-49), 3), (214, .iload_n 3, 1), (215, .ifCond .ne (11), 3), (218, .aload_n 0, 1), (219, .aload_n 0, 1), (220, .getfield 141, 3), (223, .invokevirtual 159, 3), (226, .aload_n 0, 1), (227, .getfield 66, 3), (230, .iload_n 1, 1), (231, .iconst 4, 1), (232, .iadd, 1), (233, .iload_n 3, 1), (234, .iastore, 1), (235, .goto (37), 3), (238, .aload_n 0, 1), (239, .getfield 66, 3), (242, .iload_n 1, 1), (243, .iconst 2, 1), (244, .iadd, 1), (245, .aload_n 0, 1), (246, .bipush (97), 2), (248, .bipush (6), 2), (250, .iconst (-1), 1), (251, .invokevirtual 189, 3), (254, .iastore, 1), (255, .aload_n 0, 1), (256, .getfield 66, 3), (259, .iload_n 1, 1), (260, .iconst 3, 1), (261, .iadd, 1), (262, .aload_n 0, 1), (263, .bipush (113), 2), (265, .bipush (10), 2), (267, .iconst (-1), 1), (268, .invokevirtual 189, 3), (271, .iastore, 1), (272, .return_, 1)]
set_option maxRecDepth 200000 in
theorem mo_readAct_code_ok : px_code prog_13_method_70_code mo_readAct_code = true := by decide +kernel
noncomputable def mo_readAct_orc : pC := px_orc [(190, fun a h => match a with
    | [.inr (.inl 51), .inl v1] => mo_fault v1 h
    | _ => none), (189, fun a h => match a with
    | [.inr (.inl 51)] => mo_fine h
    | _ => none), (188, fun a h => match a with
    | [.inr (.inl 51)] => mo_here h
    | _ => none), (175, fun a h => match a with
    | [.inl v0, .inl v1, .inl v2] => mo_in v0 v1 v2 h
    | _ => none), (196, fun a h => match a with
    | [.inr (.inl 51), .inl v1, .inl v2, .inl v3] => mo_letter v1 v2 v3 h
    | _ => none), (193, fun a h => match a with
    | [.inr (.inl 51), .inl v1, .inl v2] => mo_digit v1 v2 h
    | _ => none), (192, fun a h => match a with
    | [.inr (.inl 51), .inl v1] => mo_need v1 h
    | _ => none), (191, fun a h => match a with
    | [.inr (.inl 51), .inl v1] => mo_passes v1 h
    | _ => none)]
theorem mo_readAct_orc_ok {d : Nat} : px_Or (d + 3) (mo_readAct_orc) := px_orc_ok (by
  refine px_o1 (fun a h q e => by
    dsimp only at e
    split at e
    · exact mo_fault_ok (d := d + 1) e
    · cases e) ?_
  refine px_o1 (fun a h q e => by
    dsimp only at e
    split at e
    · exact mo_fine_ok (d := d + 2) e
    · cases e) ?_
  refine px_o1 (fun a h q e => by
    dsimp only at e
    split at e
    · exact mo_here_ok (d := d + 2) e
    · cases e) ?_
  refine px_o1 (fun a h q e => by
    dsimp only at e
    split at e
    · exact mo_in_ok (d := d + 2) e
    · cases e) ?_
  refine px_o1 (fun a h q e => by
    dsimp only at e
    split at e
    · exact mo_letter_ok (d := d + 0) e
    · cases e) ?_
  refine px_o1 (fun a h q e => by
    dsimp only at e
    split at e
    · exact mo_digit_ok (d := d + 0) e
    · cases e) ?_
  refine px_o1 (fun a h q e => by
    dsimp only at e
    split at e
    · exact mo_need_ok (d := d + 0) e
    · cases e) ?_
  refine px_o1 (fun a h q e => by
    dsimp only at e
    split at e
    · exact mo_passes_ok (d := d + 1) e
    · cases e) ?_
  exact px_o0)
set_option maxRecDepth 200000 in
theorem mo_readAct_272_ok {d : Nat} : ∀ (h : pH) (q : Int32 × pH), mo_readAct_272 h = some q → px_G (d + 3 + 1) (pX_RX11, prog_13_method_70_code, 4, none) 272 [none, none, none, none] [] h q := by
  intro h q e
  exact px_blk_ok (d := d + 3) (M := (pX_RX11, prog_13_method_70_code, 4, none)) (C := mo_readAct_orc) (code := mo_readAct_code) (ld := []) (kl := []) (mo_readAct_orc_ok) pX_ok_RX11 mo_readAct_code_ok (px_k0) 165 272 _ _ h q e
set_option maxRecDepth 200000 in
theorem mo_readAct_226_ok {d : Nat} : ∀ (x1 : Int32) (x3 : Int32) (h : pH) (q : Int32 × pH), mo_readAct_226 x1 x3 h = some q → px_G (d + 3 + 1) (pX_RX11, prog_13_method_70_code, 4, none) 226 [some (.inr (.inl 51)), some (.inl x1), none, some (.inl x3)] [] h q := by
  intro x1 x3 h q e
  exact px_blk_ok (d := d + 3) (M := (pX_RX11, prog_13_method_70_code, 4, none)) (C := mo_readAct_orc) (code := mo_readAct_code) (ld := [272]) (kl := [(272, fun ls st h => px_if (px_fit [0, 0, 0, 0] ls && px_fits [] st) (mo_readAct_272 h))]) (mo_readAct_orc_ok) pX_ok_RX11 mo_readAct_code_ok (px_k1 (px_ko (ts := [0, 0, 0, 0]) (ss := []) fun ls st h q e => mo_readAct_272_ok _ _ e) px_k0) 165 226 _ _ h q e
set_option maxRecDepth 200000 in
theorem mo_readAct_214_ok {d : Nat} : ∀ (x1 : Int32) (x3 : Int32) (h : pH) (q : Int32 × pH), mo_readAct_214 x1 x3 h = some q → px_G (d + 3 + 1) (pX_RX11, prog_13_method_70_code, 4, none) 214 [some (.inr (.inl 51)), some (.inl x1), none, some (.inl x3)] [] h q := by
  intro x1 x3 h q e
  exact px_blk_ok (d := d + 3) (M := (pX_RX11, prog_13_method_70_code, 4, none)) (C := mo_readAct_orc) (code := mo_readAct_code) (ld := [226]) (kl := [(226, fun ls st h => px_if (px_fit [61, 1, 0, 1] ls && px_fits [] st) (mo_readAct_226 (px_gi ls 1) (px_gi ls 3) h))]) (mo_readAct_orc_ok) pX_ok_RX11 mo_readAct_code_ok (px_k1 (px_ko (ts := [61, 1, 0, 1]) (ss := []) fun ls st h q e => mo_readAct_226_ok _ _ _ _ e) px_k0) 165 214 _ _ h q e
set_option maxRecDepth 200000 in
theorem mo_readAct_162_ok {d : Nat} : ∀ (n : Nat) (x1 : Int32) (x3 : Int32) (h : pH) (q : Int32 × pH), mo_readAct_162 n x1 x3 h = some q → px_G (d + 3 + 1) (pX_RX11, prog_13_method_70_code, 4, none) 162 [some (.inr (.inl 51)), some (.inl x1), none, some (.inl x3)] [] h q := by
  intro n
  induction n with
  | zero =>
    intro x1 x3 h q e
    cases e
  | succ n ih =>
    intro x1 x3 h q e
    exact px_blk_ok (d := d + 3) (M := (pX_RX11, prog_13_method_70_code, 4, none)) (C := mo_readAct_orc) (code := mo_readAct_code) (ld := [162, 214]) (kl := [(162, fun ls st h => px_if (px_fit [61, 1, 0, 1] ls && px_fits [] st) (mo_readAct_162 n (px_gi ls 1) (px_gi ls 3) h)), (214, fun ls st h => px_if (px_fit [61, 1, 0, 1] ls && px_fits [] st) (mo_readAct_214 (px_gi ls 1) (px_gi ls 3) h))]) (mo_readAct_orc_ok) pX_ok_RX11 mo_readAct_code_ok (px_k1 (px_ko (ts := [61, 1, 0, 1]) (ss := []) fun ls st h q e => ih _ _ _ _ e) (px_k1 (px_ko (ts := [61, 1, 0, 1]) (ss := []) fun ls st h q e => mo_readAct_214_ok _ _ _ _ e) px_k0)) 165 162 _ _ h q e
set_option maxRecDepth 200000 in
theorem mo_readAct_139_ok {d : Nat} : ∀ (x1 : Int32) (s0 : Int32) (s1 : Int32) (h : pH) (q : Int32 × pH), mo_readAct_139 x1 s0 s1 h = some q → px_G (d + 3 + 1) (pX_RX11, prog_13_method_70_code, 4, none) 139 [some (.inr (.inl 51)), some (.inl x1), none, none] [.inl s0, .inl s1, .inr (.inl 69)] h q := by
  intro x1 s0 s1 h q e
  exact px_blk_ok (d := d + 3) (M := (pX_RX11, prog_13_method_70_code, 4, none)) (C := mo_readAct_orc) (code := mo_readAct_code) (ld := [162]) (kl := [(162, fun ls st h => px_if (px_fit [61, 1, 0, 1] ls && px_fits [] st) (mo_readAct_162 px_F (px_gi ls 1) (px_gi ls 3) h))]) (mo_readAct_orc_ok) pX_ok_RX11 mo_readAct_code_ok (px_k1 (px_ko (ts := [61, 1, 0, 1]) (ss := []) fun ls st h q e => mo_readAct_162_ok _ _ _ _ _ e) px_k0) 165 139 _ _ h q e
set_option maxRecDepth 200000 in
theorem mo_readAct_37_ok {d : Nat} : ∀ (x1 : Int32) (x2 : Int32) (h : pH) (q : Int32 × pH), mo_readAct_37 x1 x2 h = some q → px_G (d + 3 + 1) (pX_RX11, prog_13_method_70_code, 4, none) 37 [some (.inr (.inl 51)), some (.inl x1), some (.inl x2), none] [] h q := by
  intro x1 x2 h q e
  exact px_blk_ok (d := d + 3) (M := (pX_RX11, prog_13_method_70_code, 4, none)) (C := mo_readAct_orc) (code := mo_readAct_code) (ld := [139, 272]) (kl := [(139, fun ls st h => px_if (px_fit [61, 1, 0, 0] ls && px_fits [1, 1, 79] st) (mo_readAct_139 (px_gi ls 1) (px_si st 0) (px_si st 1) h)), (272, fun ls st h => px_if (px_fit [0, 0, 0, 0] ls && px_fits [] st) (mo_readAct_272 h))]) (mo_readAct_orc_ok) pX_ok_RX11 mo_readAct_code_ok (px_k1 (px_ko (ts := [61, 1, 0, 0]) (ss := [1, 1, 79]) fun ls st h q e => mo_readAct_139_ok _ _ _ _ _ e) (px_k1 (px_ko (ts := [0, 0, 0, 0]) (ss := []) fun ls st h q e => mo_readAct_272_ok _ _ e) px_k0)) 165 37 _ _ h q e
set_option maxRecDepth 200000 in
theorem mo_readAct_ok {d : Nat} {x1 : Int32} {h : pH} {q : Int32 × pH} (e : mo_readAct x1 h = some q) : px_Con (d + 4) 242 [.inr (.inl 51), .inl x1] h q :=
  px_con (X := pX_RX11) (b := prog_13_method_70_code) (nL := 4) (rt := none) rfl rfl (Nat.le_of_ble_eq_true rfl) rfl (px_blk_ok (d := d + 3) (M := (pX_RX11, prog_13_method_70_code, 4, none)) (C := mo_readAct_orc) (code := mo_readAct_code) (ld := [37]) (kl := [(37, fun ls st h => px_if (px_fit [61, 1, 1, 0] ls && px_fits [] st) (mo_readAct_37 (px_gi ls 1) (px_gi ls 2) h))]) (mo_readAct_orc_ok) pX_ok_RX11 mo_readAct_code_ok (px_k1 (px_ko (ts := [61, 1, 1, 0]) (ss := []) fun ls st h q e => mo_readAct_37_ok _ _ _ _ e) px_k0) 165 0 _ _ _ q e)
/-! WordsUnsaidModel.day()I -/
noncomputable def mo_day_173 (x3 : Int32) (s0 : Int32) (h : pH) : pR :=
  px_bind (mo_tell s0 h) fun _ h2 =>
  px_bind (mo_tell (h2 51 39) h2) fun _ h4 =>
  some (x3, h4)
noncomputable def mo_day_157 (x1 : Int32) (x3 : Int32) (h : pH) : pR :=
  let h1 := px_w h 51 13 (px_c 0)
  if x1 ≤ x3 then
    mo_day_173 x3 (px_c 0) h1
  else
    mo_day_173 x3 (px_c 1) h1
noncomputable def mo_day_145 (x1 : Int32) (x3 : Int32) (h : pH) : pR :=
  if x3 ≤ 0 then
    mo_day_157 x1 x3 h
  else
    px_bind (mo_remember 67 h) fun _ h2 =>
    mo_day_157 x1 x3 h2
noncomputable def mo_day_123 : Nat → Int32 → Int32 → pH → pR
  | 0, _, _, _ => none
  | n + 1, x1, x3, h =>
    if x1 ≤ x3 then
      mo_day_145 x1 x3 h
    else
      px_bind (mo_act ((px_c 11) * x3) h) fun z1 h2 =>
      if z1 = 0 then
        mo_day_145 x1 x3 h2
      else
        mo_day_123 n x1 (x3 + px_c 1) h2
noncomputable def mo_day_90 (x1 : Int32) (h : pH) : pR :=
  px_bind (mo_fine h) fun z1 h2 =>
  if z1 = 0 then
    some ((px_c (-1)) - (h2 51 19), h2)
  else
    px_bind (mo_lay 52 67 (px_c 0) h2) fun _ h4 =>
    let h5 := px_w h4 51 39 (px_c 0)
    mo_day_123 px_F x1 (px_c 0) h5
noncomputable def mo_day_71 (x1 : Int32) (h : pH) : pR :=
  if (h 51 16) ≤ (h 51 18) then
    mo_day_90 x1 h
  else
    px_bind (mo_fault (h 51 18) h) fun _ h2 =>
    mo_day_90 x1 h2
noncomputable def mo_day_39 : Nat → Int32 → Int32 → pH → pR
  | 0, _, _, _ => none
  | n + 1, x1, x2, h =>
    if x2 = 0 then
      mo_day_71 x1 h
    else
      px_bind (mo_fine h) fun z1 h2 =>
      if z1 = 0 then
        mo_day_71 x1 h2
      else
        px_bind (mo_readAct ((px_c 11) * x1) h2) fun _ h4 =>
        px_bind (mo_passes (px_c 59) h4) fun z5 h6 =>
        mo_day_39 n (x1 + px_c 1) z5 h6
noncomputable def mo_day_38 (x1 : Int32) (s0 : Int32) (h : pH) : pR :=
  mo_day_39 px_F x1 s0 h
noncomputable def mo_day (h : pH) : pR :=
  let h1 := px_w h 51 14 (px_c 0)
  px_bind (mo_begin 58 (h1 51 11) (px_c 60) h1) fun _ h3 =>
  let h4 := px_w h3 51 11 (px_c 0)
  if (h4 51 16) ≤ 0 then
    mo_day_38 (px_c 0) (px_c 0) h4
  else
    mo_day_38 (px_c 0) (px_c 1) h4
def mo_day_code : pCode := [(0, .aload_n 0, 1), (1, .iconst 0, 1), (2, .putfield 106, 3), (5, .aload_n 0, 1), (6, .aload_n 0, 1), (7, .getfield 32, 3), (10, .aload_n 0, 1), (11, .getfield 129, 3), (14, .bipush (60), 2), (16, .invokevirtual 171, 3), (19, .aload_n 0, 1), (20, .iconst 0, 1), (21, .putfield 129, 3), (24, .iconst 0, 1), (25, .istore_n 1, 1), (26, .aload_n 0, 1), (27, .getfield 135, 3), (30, .ifCond .le (7), 3), (33, .iconst 1, 1), (34, .goto (4), 3), (37, .iconst 0, 1), (38, .istore_n 2, 1), (39, .iload_n 2, 1), (40, .ifCond .eq (31), 3), (43, .aload_n 0, 1), (44, .invokevirtual 147, 3), (47, .ifCond .eq (24), 3), (50, .aload_n 0, 1), (51, .bipush (11), 2), (53, .iload_n 1, 1), (54, .imul, 1), (55, .invokevirtual 358, 3), (58, .iinc 1 (1), 3), (61, .aload_n 0, 1), (62, .bipush (59), 2), (64, .invokevirtual 155, 3), (67, .istore_n 2, 1), (68, .goto (-29), 3), (71, .aload_n 0, 1), (72, .getfield 141, 3), (75, .aload_n 0, 1), (76, .getfield 135, 3), (79, .if_icmp .ge (11), 3), (82, .aload_n 0, 1), (83, .aload_n 0, 1), (84, .getfield 141, 3), (87, .invokevirtual 159, 3), (90, .aload_n 0, 1), (91, .invokevirtual 147, 3), (94, .ifCond .ne (10), 3), (97, .iconst (-1), 1), (98, .aload_n 0, 1), (99, .getfield 144, 3), (102, .isub, 1), (103, .ireturn, 1), (104, .aload_n 0, 1), (105, .getfield 9, 3), (108, .aload_n 0, 1), (109, .getfield 60, 3), (112, .iconst 0, 1), (113, .invokestatic 295, 3), (116, .aload_n 0, 1), (117, .iconst 0, 1), (118, .putfield 361, 3), (121, .iconst 0, 1), (122, .istore_n 3, 1), (123, .iload_n 3, 1), (124, .iload_n 1, 1), (125, .if_icmp .ge (20), 3), (128, .aload_n 0, 1), (129, .bipush (11), 2), (131, .iload_n 3, 1), (132, .imul, 1), (133, .invokevirtual 364, 3), (136, .ifCond .eq (9), 3), (139, .iinc 3 (1), 3), (142, .goto (-19), 3), (145, .iload_n 3, 1), (146, .ifCond .le (11), 3), (149, .aload_n 0, 1), (150, .aload_n 0, 1), (151, .getfield 60, 3), (154, .invokevirtual 322, 3), (157, .aload_n 0, 1), (158, .iconst 0, 1), (159, .putfield 109, 3), (162, .aload_n 0, 1), (163, .iload_n 3, 1), (164, .iload_n 1, 1), (165, .if_icmp .ge (7), 3), (168, .iconst 1, 1), (169, .goto (4), 3), (172, .iconst 0, 1), (173, .invokevirtual 312, 3), (176, .aload_n 0, 1), (177, .aload_n 0, 1), (178, .getfield 361, 3), (181, .invokevirtual 312, 3), (184, .iload_n 3, 1), (185, .ireturn, 1)]
set_option maxRecDepth 200000 in
theorem mo_day_code_ok : px_code prog_13_method_69_code mo_day_code = true := by decide +kernel
noncomputable def mo_day_orc : pC := px_orc [(178, fun a h => match a with
    | [.inr (.inl 51), .inl v1] => mo_tell v1 h
    | _ => none), (224, fun a h => match a with
    | [.inr (.inl 51), .inr (.inl v1)] => mo_remember v1 h
    | _ => none), (243, fun a h => match a with
    | [.inr (.inl 51), .inl v1] => mo_act v1 h
    | _ => none), (189, fun a h => match a with
    | [.inr (.inl 51)] => mo_fine h
    | _ => none), (223, fun a h => match a with
    | [.inr (.inl v0), .inr (.inl v1), .inl v2] => mo_lay v0 v1 v2 h
    | _ => none), (190, fun a h => match a with
    | [.inr (.inl 51), .inl v1] => mo_fault v1 h
    | _ => none), (242, fun a h => match a with
    | [.inr (.inl 51), .inl v1] => mo_readAct v1 h
    | _ => none), (191, fun a h => match a with
    | [.inr (.inl 51), .inl v1] => mo_passes v1 h
    | _ => none), (187, fun a h => match a with
    | [.inr (.inl 51), .inr (.inl v1), .inl v2, .inl v3] => mo_begin v1 v2 v3 h
    | _ => none)]
theorem mo_day_orc_ok {d : Nat} : px_Or (d + 108) (mo_day_orc) := px_orc_ok (by
  refine px_o1 (fun a h q e => by
    dsimp only at e
    split at e
    · exact mo_tell_ok (d := d + 107) e
    · cases e) ?_
  refine px_o1 (fun a h q e => by
    dsimp only at e
    split at e
    · exact mo_remember_ok (d := d + 106) e
    · cases e) ?_
  refine px_o1 (fun a h q e => by
    dsimp only at e
    split at e
    · exact mo_act_ok (d := d + 0) e
    · cases e) ?_
  refine px_o1 (fun a h q e => by
    dsimp only at e
    split at e
    · exact mo_fine_ok (d := d + 107) e
    · cases e) ?_
  refine px_o1 (fun a h q e => by
    dsimp only at e
    split at e
    · exact mo_lay_ok (d := d + 107) e
    · cases e) ?_
  refine px_o1 (fun a h q e => by
    dsimp only at e
    split at e
    · exact mo_fault_ok (d := d + 106) e
    · cases e) ?_
  refine px_o1 (fun a h q e => by
    dsimp only at e
    split at e
    · exact mo_readAct_ok (d := d + 104) e
    · cases e) ?_
  refine px_o1 (fun a h q e => by
    dsimp only at e
    split at e
    · exact mo_passes_ok (d := d + 106) e
    · cases e) ?_
  refine px_o1 (fun a h q e => by
    dsimp only at e
    split at e
    · exact mo_begin_ok (d := d + 107) e
    · cases e) ?_
  exact px_o0)
set_option maxRecDepth 200000 in
theorem mo_day_173_ok {d : Nat} : ∀ (x3 : Int32) (s0 : Int32) (h : pH) (q : Int32 × pH), mo_day_173 x3 s0 h = some q → px_G (d + 108 + 1) (pX_RX11, prog_13_method_69_code, 4, (some .int)) 173 [some (.inr (.inl 51)), none, none, some (.inl x3)] [.inl s0, .inr (.inl 51)] h q := by
  intro x3 s0 h q e
  exact px_blk_ok (d := d + 108) (M := (pX_RX11, prog_13_method_69_code, 4, (some .int))) (C := mo_day_orc) (code := mo_day_code) (ld := []) (kl := []) (mo_day_orc_ok) pX_ok_RX11 mo_day_code_ok (px_k0) 105 173 _ _ h q e
set_option maxRecDepth 200000 in
theorem mo_day_157_ok {d : Nat} : ∀ (x1 : Int32) (x3 : Int32) (h : pH) (q : Int32 × pH), mo_day_157 x1 x3 h = some q → px_G (d + 108 + 1) (pX_RX11, prog_13_method_69_code, 4, (some .int)) 157 [some (.inr (.inl 51)), some (.inl x1), none, some (.inl x3)] [] h q := by
  intro x1 x3 h q e
  exact px_blk_ok (d := d + 108) (M := (pX_RX11, prog_13_method_69_code, 4, (some .int))) (C := mo_day_orc) (code := mo_day_code) (ld := [173]) (kl := [(173, fun ls st h => px_if (px_fit [61, 0, 0, 1] ls && px_fits [1, 61] st) (mo_day_173 (px_gi ls 3) (px_si st 0) h))]) (mo_day_orc_ok) pX_ok_RX11 mo_day_code_ok (px_k1 (px_ko (ts := [61, 0, 0, 1]) (ss := [1, 61]) fun ls st h q e => mo_day_173_ok _ _ _ _ e) px_k0) 105 157 _ _ h q e
set_option maxRecDepth 200000 in
theorem mo_day_145_ok {d : Nat} : ∀ (x1 : Int32) (x3 : Int32) (h : pH) (q : Int32 × pH), mo_day_145 x1 x3 h = some q → px_G (d + 108 + 1) (pX_RX11, prog_13_method_69_code, 4, (some .int)) 145 [some (.inr (.inl 51)), some (.inl x1), none, some (.inl x3)] [] h q := by
  intro x1 x3 h q e
  exact px_blk_ok (d := d + 108) (M := (pX_RX11, prog_13_method_69_code, 4, (some .int))) (C := mo_day_orc) (code := mo_day_code) (ld := [157]) (kl := [(157, fun ls st h => px_if (px_fit [61, 1, 0, 1] ls && px_fits [] st) (mo_day_157 (px_gi ls 1) (px_gi ls 3) h))]) (mo_day_orc_ok) pX_ok_RX11 mo_day_code_ok (px_k1 (px_ko (ts := [61, 1, 0, 1]) (ss := []) fun ls st h q e => mo_day_157_ok _ _ _ _ e) px_k0) 105 145 _ _ h q e
set_option maxRecDepth 200000 in
theorem mo_day_123_ok {d : Nat} : ∀ (n : Nat) (x1 : Int32) (x3 : Int32) (h : pH) (q : Int32 × pH), mo_day_123 n x1 x3 h = some q → px_G (d + 108 + 1) (pX_RX11, prog_13_method_69_code, 4, (some .int)) 123 [some (.inr (.inl 51)), some (.inl x1), none, some (.inl x3)] [] h q := by
  intro n
  induction n with
  | zero =>
    intro x1 x3 h q e
    cases e
  | succ n ih =>
    intro x1 x3 h q e
    exact px_blk_ok (d := d + 108) (M := (pX_RX11, prog_13_method_69_code, 4, (some .int))) (C := mo_day_orc) (code := mo_day_code) (ld := [123, 145]) (kl := [(123, fun ls st h => px_if (px_fit [61, 1, 0, 1] ls && px_fits [] st) (mo_day_123 n (px_gi ls 1) (px_gi ls 3) h)), (145, fun ls st h => px_if (px_fit [61, 1, 0, 1] ls && px_fits [] st) (mo_day_145 (px_gi ls 1) (px_gi ls 3) h))]) (mo_day_orc_ok) pX_ok_RX11 mo_day_code_ok (px_k1 (px_ko (ts := [61, 1, 0, 1]) (ss := []) fun ls st h q e => ih _ _ _ _ e) (px_k1 (px_ko (ts := [61, 1, 0, 1]) (ss := []) fun ls st h q e => mo_day_145_ok _ _ _ _ e) px_k0)) 105 123 _ _ h q e
set_option maxRecDepth 200000 in
theorem mo_day_90_ok {d : Nat} : ∀ (x1 : Int32) (h : pH) (q : Int32 × pH), mo_day_90 x1 h = some q → px_G (d + 108 + 1) (pX_RX11, prog_13_method_69_code, 4, (some .int)) 90 [some (.inr (.inl 51)), some (.inl x1), none, none] [] h q := by
  intro x1 h q e
  exact px_blk_ok (d := d + 108) (M := (pX_RX11, prog_13_method_69_code, 4, (some .int))) (C := mo_day_orc) (code := mo_day_code) (ld := [123]) (kl := [(123, fun ls st h => px_if (px_fit [61, 1, 0, 1] ls && px_fits [] st) (mo_day_123 px_F (px_gi ls 1) (px_gi ls 3) h))]) (mo_day_orc_ok) pX_ok_RX11 mo_day_code_ok (px_k1 (px_ko (ts := [61, 1, 0, 1]) (ss := []) fun ls st h q e => mo_day_123_ok _ _ _ _ _ e) px_k0) 105 90 _ _ h q e
set_option maxRecDepth 200000 in
theorem mo_day_71_ok {d : Nat} : ∀ (x1 : Int32) (h : pH) (q : Int32 × pH), mo_day_71 x1 h = some q → px_G (d + 108 + 1) (pX_RX11, prog_13_method_69_code, 4, (some .int)) 71 [some (.inr (.inl 51)), some (.inl x1), none, none] [] h q := by
  intro x1 h q e
  exact px_blk_ok (d := d + 108) (M := (pX_RX11, prog_13_method_69_code, 4, (some .int))) (C := mo_day_orc) (code := mo_day_code) (ld := [90]) (kl := [(90, fun ls st h => px_if (px_fit [61, 1, 0, 0] ls && px_fits [] st) (mo_day_90 (px_gi ls 1) h))]) (mo_day_orc_ok) pX_ok_RX11 mo_day_code_ok (px_k1 (px_ko (ts := [61, 1, 0, 0]) (ss := []) fun ls st h q e => mo_day_90_ok _ _ _ e) px_k0) 105 71 _ _ h q e
set_option maxRecDepth 200000 in
theorem mo_day_39_ok {d : Nat} : ∀ (n : Nat) (x1 : Int32) (x2 : Int32) (h : pH) (q : Int32 × pH), mo_day_39 n x1 x2 h = some q → px_G (d + 108 + 1) (pX_RX11, prog_13_method_69_code, 4, (some .int)) 39 [some (.inr (.inl 51)), some (.inl x1), some (.inl x2), none] [] h q := by
  intro n
  induction n with
  | zero =>
    intro x1 x2 h q e
    cases e
  | succ n ih =>
    intro x1 x2 h q e
    exact px_blk_ok (d := d + 108) (M := (pX_RX11, prog_13_method_69_code, 4, (some .int))) (C := mo_day_orc) (code := mo_day_code) (ld := [39, 71]) (kl := [(39, fun ls st h => px_if (px_fit [61, 1, 1, 0] ls && px_fits [] st) (mo_day_39 n (px_gi ls 1) (px_gi ls 2) h)), (71, fun ls st h => px_if (px_fit [61, 1, 0, 0] ls && px_fits [] st) (mo_day_71 (px_gi ls 1) h))]) (mo_day_orc_ok) pX_ok_RX11 mo_day_code_ok (px_k1 (px_ko (ts := [61, 1, 1, 0]) (ss := []) fun ls st h q e => ih _ _ _ _ e) (px_k1 (px_ko (ts := [61, 1, 0, 0]) (ss := []) fun ls st h q e => mo_day_71_ok _ _ _ e) px_k0)) 105 39 _ _ h q e
set_option maxRecDepth 200000 in
theorem mo_day_38_ok {d : Nat} : ∀ (x1 : Int32) (s0 : Int32) (h : pH) (q : Int32 × pH), mo_day_38 x1 s0 h = some q → px_G (d + 108 + 1) (pX_RX11, prog_13_method_69_code, 4, (some .int)) 38 [some (.inr (.inl 51)), some (.inl x1), none, none] [.inl s0] h q := by
  intro x1 s0 h q e
  exact px_blk_ok (d := d + 108) (M := (pX_RX11, prog_13_method_69_code, 4, (some .int))) (C := mo_day_orc) (code := mo_day_code) (ld := [39]) (kl := [(39, fun ls st h => px_if (px_fit [61, 1, 1, 0] ls && px_fits [] st) (mo_day_39 px_F (px_gi ls 1) (px_gi ls 2) h))]) (mo_day_orc_ok) pX_ok_RX11 mo_day_code_ok (px_k1 (px_ko (ts := [61, 1, 1, 0]) (ss := []) fun ls st h q e => mo_day_39_ok _ _ _ _ _ e) px_k0) 105 38 _ _ h q e
set_option maxRecDepth 200000 in
theorem mo_day_ok {d : Nat} {h : pH} {q : Int32 × pH} (e : mo_day h = some q) : px_Con (d + 109) 241 [.inr (.inl 51)] h q :=
  px_con (X := pX_RX11) (b := prog_13_method_69_code) (nL := 4) (rt := (some .int)) rfl rfl (Nat.le_of_ble_eq_true rfl) rfl (px_blk_ok (d := d + 108) (M := (pX_RX11, prog_13_method_69_code, 4, (some .int))) (C := mo_day_orc) (code := mo_day_code) (ld := [38]) (kl := [(38, fun ls st h => px_if (px_fit [61, 1, 0, 0] ls && px_fits [1] st) (mo_day_38 (px_gi ls 1) (px_si st 0) h))]) (mo_day_orc_ok) pX_ok_RX11 mo_day_code_ok (px_k1 (px_ko (ts := [61, 1, 0, 0]) (ss := [1]) fun ls st h q e => mo_day_38_ok _ _ _ _ e) px_k0) 105 0 _ _ _ q e)
/-! WordsUnsaidModel.undo()I -/
noncomputable def mo_undo_26 : Nat → Int32 → pH → pR
  | 0, _, _ => none
  | n + 1, x1, h =>
    if (px_c 52) ≤ x1 then
      some (h 51 35, h)
    else
      px_if (px_ok 0 66 (((px_c 52) * (h 51 35)) + x1)) <|
      px_if (px_ok 0 52 x1) <|
      let h1 := px_w h 52 x1.toNatClampNeg (h 66 (((px_c 52) * (h 51 35)) + x1).toNatClampNeg)
      mo_undo_26 n (x1 + px_c 1) h1
noncomputable def mo_undo (h : pH) : pR :=
  let h1 := px_w h 51 14 (px_c 0)
  if (h1 51 35) = 0 then
    some (px_c (-1), h1)
  else
    let h2 := px_w h1 51 35 ((h1 51 35) - (px_c 1))
    mo_undo_26 px_F (px_c 0) h2
def mo_undo_code : pCode := [(0, .aload_n 0, 1), (1, .iconst 0, 1), (2, .putfield 106, 3), (5, .aload_n 0, 1), (6, .getfield 177, 3), (9, .ifCond .ne (5), 3), (12, .iconst (-1), 1), (13, .ireturn, 1), (14, .aload_n 0, 1), (15, .dup, 1), (16, .getfield 177, 3), (19, .iconst 1, 1), (20, .isub, 1), (21, .putfield 177, 3), (24, .iconst 0, 1), (25, .istore_n 1, 1), (26, .iload_n 1, 1), (27, .bipush (52), 2), (29, .if_icmp .ge (29), 3), (32, .aload_n 0, 1), (33, .getfield 9, 3), (36, .iload_n 1, 1), (37, .aload_n 0, 1), (38, .getfield 57, 3), (41, .bipush (52), 2), (43, .aload_n 0, 1), (44, .getfield 177, 3), (47, .imul, 1), (48, .iload_n 1, 1), (49, .iadd, 1), (50, .iaload, 1), (51, .iastore, 1), (52, .iinc 1 (1), 3), (55, .goto (-29), 3), (58, .aload_n 0, 1), (59, .getfield 177, 3), (62, .ireturn, 1)]
set_option maxRecDepth 200000 in
theorem mo_undo_code_ok : px_code prog_13_method_73_code mo_undo_code = true := by decide +kernel
noncomputable def mo_undo_orc : pC := px_orc []
theorem mo_undo_orc_ok {d : Nat} : px_Or (d + 0) (mo_undo_orc) := px_orc_ok (by
  exact px_o0)
set_option maxRecDepth 200000 in
theorem mo_undo_26_ok {d : Nat} : ∀ (n : Nat) (x1 : Int32) (h : pH) (q : Int32 × pH), mo_undo_26 n x1 h = some q → px_G (d + 0 + 1) (pX_RX11, prog_13_method_73_code, 2, (some .int)) 26 [some (.inr (.inl 51)), some (.inl x1)] [] h q := by
  intro n
  induction n with
  | zero =>
    intro x1 h q e
    cases e
  | succ n ih =>
    intro x1 h q e
    exact px_blk_ok (d := d + 0) (M := (pX_RX11, prog_13_method_73_code, 2, (some .int))) (C := mo_undo_orc) (code := mo_undo_code) (ld := [26]) (kl := [(26, fun ls st h => px_if (px_fit [61, 1] ls && px_fits [] st) (mo_undo_26 n (px_gi ls 1) h))]) (mo_undo_orc_ok) pX_ok_RX11 mo_undo_code_ok (px_k1 (px_ko (ts := [61, 1]) (ss := []) fun ls st h q e => ih _ _ _ e) px_k0) 42 26 _ _ h q e
set_option maxRecDepth 200000 in
theorem mo_undo_ok {d : Nat} {h : pH} {q : Int32 × pH} (e : mo_undo h = some q) : px_Con (d + 1) 245 [.inr (.inl 51)] h q :=
  px_con (X := pX_RX11) (b := prog_13_method_73_code) (nL := 2) (rt := (some .int)) rfl rfl (Nat.le_of_ble_eq_true rfl) rfl (px_blk_ok (d := d + 0) (M := (pX_RX11, prog_13_method_73_code, 2, (some .int))) (C := mo_undo_orc) (code := mo_undo_code) (ld := [26]) (kl := [(26, fun ls st h => px_if (px_fit [61, 1] ls && px_fits [] st) (mo_undo_26 px_F (px_gi ls 1) h))]) (mo_undo_orc_ok) pX_ok_RX11 mo_undo_code_ok (px_k1 (px_ko (ts := [61, 1]) (ss := []) fun ls st h q e => mo_undo_26_ok _ _ _ _ e) px_k0) 42 0 _ _ _ q e)
/-! WordsUnsaidModel.far(II)I -/
noncomputable def mo_far_45 (s0 : Int32) (h : pH) : pR :=
  some (s0, h)
noncomputable def mo_far_44 (h : pH) : pR :=
  mo_far_45 (px_c (-1)) h
noncomputable def mo_far (x1 : Int32) (x2 : Int32) (h : pH) : pR :=
  let h1 := px_w h 51 14 (px_c 0)
  px_bind (mo_isPerson x1 h1) fun z2 h3 =>
  if z2 = 0 then
    mo_far_44 h3
  else
    px_bind (mo_isBank x2 h3) fun z4 h5 =>
    if z4 = 0 then
      mo_far_44 h5
    else
      px_if (px_ok 0 52 x1) <|
      if (h5 52 x1.toNatClampNeg) = x2 then
        mo_far_44 h5
      else
        px_if (px_ok 0 52 x1) <|
        px_bind (mo_distance (h5 52 x1.toNatClampNeg) x2 h5) fun z6 h7 =>
        mo_far_45 z6 h7
def mo_far_code : pCode := [(0, .aload_n 0, 1), (1, .iconst 0, 1), (2, .putfield 106, 3), (5, .aload_n 0, 1), (6, .iload_n 1, 1), (7, .invokevirtual 122, 3), (10, .ifCond .eq (34), 3), (13, .iload_n 2, 1), (14, .invokestatic 302, 3), (17, .ifCond .eq (27), 3), (20, .aload_n 0, 1), (21, .getfield 9, 3), (24, .iload_n 1, 1), (25, .iaload, 1), (26, .iload_n 2, 1), (27, .if_icmp .eq (17), 3), (30, .aload_n 0, 1), (31, .aload_n 0, 1), (32, .getfield 9, 3), (35, .iload_n 1, 1), (36, .iaload, 1), (37, .iload_n 2, 1), (38, .invokevirtual 268, 3), (41, .goto (4), 3), (44, .iconst (-1), 1), (45, .ireturn, 1)]
set_option maxRecDepth 200000 in
theorem mo_far_code_ok : px_code prog_13_method_74_code mo_far_code = true := by decide +kernel
noncomputable def mo_far_orc : pC := px_orc [(179, fun a h => match a with
    | [.inr (.inl 51), .inl v1] => mo_isPerson v1 h
    | _ => none), (183, fun a h => match a with
    | [.inl v0] => mo_isBank v0 h
    | _ => none), (218, fun a h => match a with
    | [.inr (.inl 51), .inl v1, .inl v2] => mo_distance v1 v2 h
    | _ => none)]
theorem mo_far_orc_ok {d : Nat} : px_Or (d + 2) (mo_far_orc) := px_orc_ok (by
  refine px_o1 (fun a h q e => by
    dsimp only at e
    split at e
    · exact mo_isPerson_ok (d := d + 0) e
    · cases e) ?_
  refine px_o1 (fun a h q e => by
    dsimp only at e
    split at e
    · exact mo_isBank_ok (d := d + 0) e
    · cases e) ?_
  refine px_o1 (fun a h q e => by
    dsimp only at e
    split at e
    · exact mo_distance_ok (d := d + 0) e
    · cases e) ?_
  exact px_o0)
set_option maxRecDepth 200000 in
theorem mo_far_45_ok {d : Nat} : ∀ (s0 : Int32) (h : pH) (q : Int32 × pH), mo_far_45 s0 h = some q → px_G (d + 2 + 1) (pX_RX11, prog_13_method_74_code, 3, (some .int)) 45 [none, none, none] [.inl s0] h q := by
  intro s0 h q e
  exact px_blk_ok (d := d + 2) (M := (pX_RX11, prog_13_method_74_code, 3, (some .int))) (C := mo_far_orc) (code := mo_far_code) (ld := []) (kl := []) (mo_far_orc_ok) pX_ok_RX11 mo_far_code_ok (px_k0) 31 45 _ _ h q e
set_option maxRecDepth 200000 in
theorem mo_far_44_ok {d : Nat} : ∀ (h : pH) (q : Int32 × pH), mo_far_44 h = some q → px_G (d + 2 + 1) (pX_RX11, prog_13_method_74_code, 3, (some .int)) 44 [none, none, none] [] h q := by
  intro h q e
  exact px_blk_ok (d := d + 2) (M := (pX_RX11, prog_13_method_74_code, 3, (some .int))) (C := mo_far_orc) (code := mo_far_code) (ld := [45]) (kl := [(45, fun ls st h => px_if (px_fit [0, 0, 0] ls && px_fits [1] st) (mo_far_45 (px_si st 0) h))]) (mo_far_orc_ok) pX_ok_RX11 mo_far_code_ok (px_k1 (px_ko (ts := [0, 0, 0]) (ss := [1]) fun ls st h q e => mo_far_45_ok _ _ _ e) px_k0) 31 44 _ _ h q e
set_option maxRecDepth 200000 in
theorem mo_far_ok {d : Nat} {x1 : Int32} {x2 : Int32} {h : pH} {q : Int32 × pH} (e : mo_far x1 x2 h = some q) : px_Con (d + 3) 246 [.inr (.inl 51), .inl x1, .inl x2] h q :=
  px_con (X := pX_RX11) (b := prog_13_method_74_code) (nL := 3) (rt := (some .int)) rfl rfl (Nat.le_of_ble_eq_true rfl) rfl (px_blk_ok (d := d + 2) (M := (pX_RX11, prog_13_method_74_code, 3, (some .int))) (C := mo_far_orc) (code := mo_far_code) (ld := [44, 45]) (kl := [(44, fun ls st h => px_if (px_fit [0, 0, 0] ls && px_fits [] st) (mo_far_44 h)), (45, fun ls st h => px_if (px_fit [0, 0, 0] ls && px_fits [1] st) (mo_far_45 (px_si st 0) h))]) (mo_far_orc_ok) pX_ok_RX11 mo_far_code_ok (px_k1 (px_ko (ts := [0, 0, 0]) (ss := []) fun ls st h q e => mo_far_44_ok _ _ e) (px_k1 (px_ko (ts := [0, 0, 0]) (ss := [1]) fun ls st h q e => mo_far_45_ok _ _ _ e) px_k0)) 31 0 _ _ _ q e)
/-! WordsUnsaidModel.keeps(II)I -/
noncomputable def mo_keeps_47 (h : pH) : pR :=
  some (px_c (-1), h)
noncomputable def mo_keeps_137 (x3 : Int32) (x4 : Int32) (h : pH) : pR :=
  let h1 := px_w h 51 13 (px_c 0)
  px_bind (mo_tell x4 h1) fun _ h3 =>
  some (x3, h3)
noncomputable def mo_keeps_66 : Nat → Int32 → Int32 → Int32 → Int32 → pH → pR
  | 0, _, _, _, _, _ => none
  | n + 1, x1, x2, x3, x4, h =>
    if (px_c 60) ≤ x3 then
      mo_keeps_137 x3 x4 h
    else
      px_if (px_ok 0 68 ((px_c 12) + x2)) <|
      if (h 68 ((px_c 12) + x2).toNatClampNeg) ≤ 0 then
        mo_keeps_137 x3 x4 h
      else
        px_bind (mo_pressureOf 68 x2 x3 x3 ((px_c 1) <<< (x1 &&& 31)) h) fun z1 h2 =>
        px_if (px_ok 0 54 x1) <|
        if z1 ≤ (h2 54 x1.toNatClampNeg) then
          px_if (px_ok 0 68 ((px_c 12) + x2)) <|
          px_if (px_ok 0 68 ((px_c 12) + x2)) <|
          let h3 := px_w h2 68 ((px_c 12) + x2).toNatClampNeg ((h2 68 ((px_c 12) + x2).toNatClampNeg) - (px_c 1))
          mo_keeps_66 n x1 x2 (x3 + px_c 1) x4 h3
        else
          mo_keeps_137 x3 z1 h2
noncomputable def mo_keeps (x1 : Int32) (x2 : Int32) (h : pH) : pR :=
  let h1 := px_w h 51 14 (px_c 0)
  px_bind (mo_isPerson x1 h1) fun z2 h3 =>
  if z2 = 0 then
    mo_keeps_47 h3
  else
    px_bind (mo_isThing x2 h3) fun z4 h5 =>
    if z4 = 0 then
      mo_keeps_47 h5
    else
      px_if (px_ok 0 52 ((px_c 32) + x2)) <|
      if (h5 52 ((px_c 32) + x2).toNatClampNeg) = x1 then
        px_if (px_ok 0 52 ((px_c 22) + x2)) <|
        if (h5 52 ((px_c 22) + x2).toNatClampNeg) = (px_c 1) then
          mo_keeps_47 h5
        else
          px_bind (mo_lay 52 68 (px_c 0) h5) fun _ h7 =>
          mo_keeps_66 px_F x1 x2 (px_c 0) (px_c 0) h7
      else
        mo_keeps_47 h5
def mo_keeps_code : pCode := [(0, .aload_n 0, 1), (1, .iconst 0, 1), (2, .putfield 106, 3), (5, .aload_n 0, 1), (6, .iload_n 1, 1), (7, .invokevirtual 122, 3), (10, .ifCond .eq (37), 3), (13, .aload_n 0, 1), (14, .iload_n 2, 1), (15, .invokevirtual 251, 3), (18, .ifCond .eq (29), 3), (21, .aload_n 0, 1), (22, .getfield 9, 3), (25, .bipush (32), 2), (27, .iload_n 2, 1), (28, .iadd, 1), (29, .iaload, 1), (30, .iload_n 1, 1), (31, .if_icmp .ne (16), 3), (34, .aload_n 0, 1), (35, .getfield 9, 3), (38, .bipush (22), 2), (40, .iload_n 2, 1), (41, .iadd, 1), (42, .iaload, 1), (43, .iconst 1, 1), (44, .if_icmp .ne (5), 3), (47, .iconst (-1), 1), (48, .ireturn, 1), (49, .aload_n 0, 1), (50, .getfield 9, 3), (53, .aload_n 0, 1), (54, .getfield 63, 3), (57, .iconst 0, 1), (58, .invokestatic 295, 3), (61, .iconst 0, 1), (62, .istore_n 3, 1), (63, .iconst 0, 1), (64, .istore 4, 2), (66, .iload_n 3, 1), (67, .bipush (60), 2), (69, .if_icmp .ge (68), 3), (72, .aload_n 0, 1), (73, .getfield 63, 3), (76, .bipush (12), 2), (78, .iload_n 2, 1), (79, .iadd, 1), (80, .iaload, 1), (81, .ifCond .le (56), 3), (84, .aload_n 0, 1), (85, .aload_n 0, 1), (86, .getfield 63, 3), (89, .iload_n 2, 1), (90, .iload_n 3, 1), (91, .iload_n 3, 1), (92, .iconst 1, 1), (93, .iload_n 1, 1), (94, .ishl, 1), (95, .invokevirtual 277, 3), (98, .istore 5, 2), (100, .iload 5, 2), (102, .aload_n 0, 1), (103, .getfield 20, 3), (106, .iload_n 1, 1), (107, .iaload, 1), (108, .if_icmp .le (10), 3), (111, .iload 5, 2), (113, .istore 4, 2), (115, .goto (22), 3), (118, .aload_n 0, 1), (119, .getfield 63, 3), (122, .bipush (12), 2), (124, .iload_n 2, 1), (125, .iadd, 1), (126, .dup2, 1), (127, .iaload, 1), (128, .iconst 1, 1), (129, .isub, 1), (130, .iastore, 1), (131, .iinc 3 (1), 3), (134, .goto (-68), 3), (137, .aload_n 0, 1), (138, .iconst 0, 1), (139, .putfield 109, 3), (142, .aload_n 0, 1), (143, .iload 4, 2), (145, .invokevirtual 312, 3), (148, .iload_n 3, 1), (149, .ireturn, 1)]
set_option maxRecDepth 200000 in
theorem mo_keeps_code_ok : px_code prog_13_method_75_code mo_keeps_code = true := by decide +kernel
noncomputable def mo_keeps_orc : pC := px_orc [(178, fun a h => match a with
    | [.inr (.inl 51), .inl v1] => mo_tell v1 h
    | _ => none), (206, fun a h => match a with
    | [.inr (.inl 51), .inr (.inl v1), .inl v2, .inl v3, .inl v4, .inl v5] => mo_pressureOf v1 v2 v3 v4 v5 h
    | _ => none), (179, fun a h => match a with
    | [.inr (.inl 51), .inl v1] => mo_isPerson v1 h
    | _ => none), (180, fun a h => match a with
    | [.inr (.inl 51), .inl v1] => mo_isThing v1 h
    | _ => none), (223, fun a h => match a with
    | [.inr (.inl v0), .inr (.inl v1), .inl v2] => mo_lay v0 v1 v2 h
    | _ => none)]
theorem mo_keeps_orc_ok {d : Nat} : px_Or (d + 105) (mo_keeps_orc) := px_orc_ok (by
  refine px_o1 (fun a h q e => by
    dsimp only at e
    split at e
    · exact mo_tell_ok (d := d + 104) e
    · cases e) ?_
  refine px_o1 (fun a h q e => by
    dsimp only at e
    split at e
    · exact mo_pressureOf_ok (d := d + 0) e
    · cases e) ?_
  refine px_o1 (fun a h q e => by
    dsimp only at e
    split at e
    · exact mo_isPerson_ok (d := d + 103) e
    · cases e) ?_
  refine px_o1 (fun a h q e => by
    dsimp only at e
    split at e
    · exact mo_isThing_ok (d := d + 103) e
    · cases e) ?_
  refine px_o1 (fun a h q e => by
    dsimp only at e
    split at e
    · exact mo_lay_ok (d := d + 104) e
    · cases e) ?_
  exact px_o0)
set_option maxRecDepth 200000 in
theorem mo_keeps_47_ok {d : Nat} : ∀ (h : pH) (q : Int32 × pH), mo_keeps_47 h = some q → px_G (d + 105 + 1) (pX_RX11, prog_13_method_75_code, 6, (some .int)) 47 [none, none, none, none, none, none] [] h q := by
  intro h q e
  exact px_blk_ok (d := d + 105) (M := (pX_RX11, prog_13_method_75_code, 6, (some .int))) (C := mo_keeps_orc) (code := mo_keeps_code) (ld := []) (kl := []) (mo_keeps_orc_ok) pX_ok_RX11 mo_keeps_code_ok (px_k0) 94 47 _ _ h q e
set_option maxRecDepth 200000 in
theorem mo_keeps_137_ok {d : Nat} : ∀ (x3 : Int32) (x4 : Int32) (h : pH) (q : Int32 × pH), mo_keeps_137 x3 x4 h = some q → px_G (d + 105 + 1) (pX_RX11, prog_13_method_75_code, 6, (some .int)) 137 [some (.inr (.inl 51)), none, none, some (.inl x3), some (.inl x4), none] [] h q := by
  intro x3 x4 h q e
  exact px_blk_ok (d := d + 105) (M := (pX_RX11, prog_13_method_75_code, 6, (some .int))) (C := mo_keeps_orc) (code := mo_keeps_code) (ld := []) (kl := []) (mo_keeps_orc_ok) pX_ok_RX11 mo_keeps_code_ok (px_k0) 94 137 _ _ h q e
set_option maxRecDepth 200000 in
theorem mo_keeps_66_ok {d : Nat} : ∀ (n : Nat) (x1 : Int32) (x2 : Int32) (x3 : Int32) (x4 : Int32) (h : pH) (q : Int32 × pH), mo_keeps_66 n x1 x2 x3 x4 h = some q → px_G (d + 105 + 1) (pX_RX11, prog_13_method_75_code, 6, (some .int)) 66 [some (.inr (.inl 51)), some (.inl x1), some (.inl x2), some (.inl x3), some (.inl x4), none] [] h q := by
  intro n
  induction n with
  | zero =>
    intro x1 x2 x3 x4 h q e
    cases e
  | succ n ih =>
    intro x1 x2 x3 x4 h q e
    exact px_blk_ok (d := d + 105) (M := (pX_RX11, prog_13_method_75_code, 6, (some .int))) (C := mo_keeps_orc) (code := mo_keeps_code) (ld := [66, 137]) (kl := [(66, fun ls st h => px_if (px_fit [61, 1, 1, 1, 1, 0] ls && px_fits [] st) (mo_keeps_66 n (px_gi ls 1) (px_gi ls 2) (px_gi ls 3) (px_gi ls 4) h)), (137, fun ls st h => px_if (px_fit [61, 0, 0, 1, 1, 0] ls && px_fits [] st) (mo_keeps_137 (px_gi ls 3) (px_gi ls 4) h))]) (mo_keeps_orc_ok) pX_ok_RX11 mo_keeps_code_ok (px_k1 (px_ko (ts := [61, 1, 1, 1, 1, 0]) (ss := []) fun ls st h q e => ih _ _ _ _ _ _ e) (px_k1 (px_ko (ts := [61, 0, 0, 1, 1, 0]) (ss := []) fun ls st h q e => mo_keeps_137_ok _ _ _ _ e) px_k0)) 94 66 _ _ h q e
set_option maxRecDepth 200000 in
theorem mo_keeps_ok {d : Nat} {x1 : Int32} {x2 : Int32} {h : pH} {q : Int32 × pH} (e : mo_keeps x1 x2 h = some q) : px_Con (d + 106) 247 [.inr (.inl 51), .inl x1, .inl x2] h q :=
  px_con (X := pX_RX11) (b := prog_13_method_75_code) (nL := 6) (rt := (some .int)) rfl rfl (Nat.le_of_ble_eq_true rfl) rfl (px_blk_ok (d := d + 105) (M := (pX_RX11, prog_13_method_75_code, 6, (some .int))) (C := mo_keeps_orc) (code := mo_keeps_code) (ld := [66, 47]) (kl := [(66, fun ls st h => px_if (px_fit [61, 1, 1, 1, 1, 0] ls && px_fits [] st) (mo_keeps_66 px_F (px_gi ls 1) (px_gi ls 2) (px_gi ls 3) (px_gi ls 4) h)), (47, fun ls st h => px_if (px_fit [0, 0, 0, 0, 0, 0] ls && px_fits [] st) (mo_keeps_47 h))]) (mo_keeps_orc_ok) pX_ok_RX11 mo_keeps_code_ok (px_k1 (px_ko (ts := [61, 1, 1, 1, 1, 0]) (ss := []) fun ls st h q e => mo_keeps_66_ok _ _ _ _ _ _ _ e) (px_k1 (px_ko (ts := [0, 0, 0, 0, 0, 0]) (ss := []) fun ls st h q e => mo_keeps_47_ok _ _ e) px_k0)) 94 0 _ _ _ q e)
/-! WordsUnsaidModel.beginRows([IIII)V -/
noncomputable def mo_beginRows_43 : Nat → Int32 → pH → pR
  | 0, _, _ => none
  | n + 1, x5, h =>
    if (px_c 10) ≤ x5 then
      some (0, h)
    else
      px_if (px_ok 0 71 x5) <|
      let h1 := px_w h 71 x5.toNatClampNeg (px_c 0)
      mo_beginRows_43 n (x5 + px_c 1) h1
noncomputable def mo_beginRows (a1 : Nat) (x2 : Int32) (x3 : Int32) (x4 : Int32) (h : pH) : pR :=
  px_bind (mo_lay a1 70 (px_c 0) h) fun _ h2 =>
  let h3 := px_w h2 51 41 x2
  let h4 := px_w h3 51 42 x3
  let h5 := px_w h4 51 43 x4
  let h6 := px_w h5 51 45 (px_c 0)
  let h7 := px_w h6 51 46 (px_c 0)
  let h8 := px_w h7 51 47 (px_c 0)
  mo_beginRows_43 px_F (px_c 0) h8
def mo_beginRows_code : pCode := [(0, .aload_n 1, 1), (1, .aload_n 0, 1), (2, .getfield 69, 3), (5, .iconst 0, 1), (6, .invokestatic 295, 3), (9, .aload_n 0, 1), (10, .iload_n 2, 1), (11, .putfield 371, 3), (14, .aload_n 0, 1), (15, .iload_n 3, 1), (16, .putfield 374, 3), (19, .aload_n 0, 1), (20, .iload 4, 2), (22, .putfield 377, 3), (25, .aload_n 0, 1), (26, .iconst 0, 1), (27, .putfield 380, 3), (30, .aload_n 0, 1), (31, .iconst 0, 1), (32, .putfield 383, 3), (35, .aload_n 0, 1), (36, .iconst 0, 1), (37, .putfield 386, 3), (40, .iconst 0, 1), (41, .istore 5, 2), (43, .iload 5, 2), (45, .bipush (10), 2), (47, .if_icmp .ge (17), 3), (50, .aload_n 0, 1), (51, .getfield 72, 3), (54, .iload 5, 2), (56, .iconst 0, 1), (57, .iastore, 1), (58, .iinc 5 (1), 3), (61, .goto (-18), 3), (64, .return_, 1)]
set_option maxRecDepth 200000 in
theorem mo_beginRows_code_ok : px_code prog_13_method_76_code mo_beginRows_code = true := by decide +kernel
noncomputable def mo_beginRows_orc : pC := px_orc [(223, fun a h => match a with
    | [.inr (.inl v0), .inr (.inl v1), .inl v2] => mo_lay v0 v1 v2 h
    | _ => none)]
theorem mo_beginRows_orc_ok {d : Nat} : px_Or (d + 1) (mo_beginRows_orc) := px_orc_ok (by
  refine px_o1 (fun a h q e => by
    dsimp only at e
    split at e
    · exact mo_lay_ok (d := d + 0) e
    · cases e) ?_
  exact px_o0)
set_option maxRecDepth 200000 in
theorem mo_beginRows_43_ok {d : Nat} : ∀ (n : Nat) (x5 : Int32) (h : pH) (q : Int32 × pH), mo_beginRows_43 n x5 h = some q → px_G (d + 1 + 1) (pX_RX11, prog_13_method_76_code, 6, none) 43 [some (.inr (.inl 51)), none, none, none, none, some (.inl x5)] [] h q := by
  intro n
  induction n with
  | zero =>
    intro x5 h q e
    cases e
  | succ n ih =>
    intro x5 h q e
    exact px_blk_ok (d := d + 1) (M := (pX_RX11, prog_13_method_76_code, 6, none)) (C := mo_beginRows_orc) (code := mo_beginRows_code) (ld := [43]) (kl := [(43, fun ls st h => px_if (px_fit [61, 0, 0, 0, 0, 1] ls && px_fits [] st) (mo_beginRows_43 n (px_gi ls 5) h))]) (mo_beginRows_orc_ok) pX_ok_RX11 mo_beginRows_code_ok (px_k1 (px_ko (ts := [61, 0, 0, 0, 0, 1]) (ss := []) fun ls st h q e => ih _ _ _ e) px_k0) 41 43 _ _ h q e
set_option maxRecDepth 200000 in
theorem mo_beginRows_ok {d : Nat} {a1 : Nat} {x2 : Int32} {x3 : Int32} {x4 : Int32} {h : pH} {q : Int32 × pH} (e : mo_beginRows a1 x2 x3 x4 h = some q) : px_Con (d + 2) 248 [.inr (.inl 51), .inr (.inl a1), .inl x2, .inl x3, .inl x4] h q :=
  px_con (X := pX_RX11) (b := prog_13_method_76_code) (nL := 6) (rt := none) rfl rfl (Nat.le_of_ble_eq_true rfl) rfl (px_blk_ok (d := d + 1) (M := (pX_RX11, prog_13_method_76_code, 6, none)) (C := mo_beginRows_orc) (code := mo_beginRows_code) (ld := [43]) (kl := [(43, fun ls st h => px_if (px_fit [61, 0, 0, 0, 0, 1] ls && px_fits [] st) (mo_beginRows_43 px_F (px_gi ls 5) h))]) (mo_beginRows_orc_ok) pX_ok_RX11 mo_beginRows_code_ok (px_k1 (px_ko (ts := [61, 0, 0, 0, 0, 1]) (ss := []) fun ls st h q e => mo_beginRows_43_ok _ _ _ _ e) px_k0) 41 0 _ _ _ q e)
/-! WordsUnsaidModel.isLineLess()Z -/
noncomputable def mo_isLineLess_76 (s0 : Int32) (h : pH) : pR :=
  px_bz s0 h
noncomputable def mo_isLineLess_60 (h : pH) : pR :=
  if (h 51 50) ≤ (h 51 30) then
    mo_isLineLess_76 (px_c 0) h
  else
    mo_isLineLess_76 (px_c 1) h
noncomputable def mo_isLineLess_53 (s0 : Int32) (h : pH) : pR :=
  px_bz s0 h
noncomputable def mo_isLineLess_2 : Nat → Int32 → pH → pR
  | 0, _, _ => none
  | n + 1, x1, h =>
    if (h 51 30) ≤ x1 then
      mo_isLineLess_60 h
    else
      if (h 51 50) ≤ x1 then
        mo_isLineLess_60 h
      else
        px_if (px_ok 0 65 x1) <|
        px_if (px_ok 0 72 x1) <|
        if (h 65 x1.toNatClampNeg) = (h 72 x1.toNatClampNeg) then
          mo_isLineLess_2 n (x1 + px_c 1) h
        else
          px_if (px_ok 0 65 x1) <|
          px_if (px_ok 0 72 x1) <|
          if (h 72 x1.toNatClampNeg) ≤ (h 65 x1.toNatClampNeg) then
            mo_isLineLess_53 (px_c 0) h
          else
            mo_isLineLess_53 (px_c 1) h
noncomputable def mo_isLineLess (h : pH) : pR :=
  mo_isLineLess_2 px_F (px_c 0) h
def mo_isLineLess_code : pCode := [(0, .iconst 0, 1), (1, .istore_n 1, 1), (2, .iload_n 1, 1), (3, .aload_n 0, 1), (4, .getfield 292, 3), (7, .if_icmp .ge (53), 3), (10, .iload_n 1, 1), (11, .aload_n 0, 1), (12, .getfield 404, 3), (15, .if_icmp .ge (45), 3), (18, .aload_n 0, 1), (19, .getfield 54, 3), (22, .iload_n 1, 1), (23, .iaload, 1), (24, .aload_n 0, 1), (25, .getfield 75, 3), (28, .iload_n 1, 1), (29, .iaload, 1), (30, .if_icmp .eq (24), 3), (33, .aload_n 0, 1), (34, .getfield 54, 3), (37, .iload_n 1, 1), (38, .iaload, 1), (39, .aload_n 0, 1), (40, .getfield 75, 3), (43, .iload_n 1, 1), (44, .iaload, 1), (45, .if_icmp .ge (7), 3), (48, .iconst 1, 1), (49, .goto (4), 3), (52, .iconst 0, 1), (53, .ireturn, 1), (54, .iinc 1 (1), 3), (57, .goto (-55), 3), (60, .aload_n 0, 1), (61, .getfield 292, 3), (64, .aload_n 0, 1), (65, .getfield 404, 3), (68, .if_icmp .ge (7), 3), (71, .iconst 1, 1), (72, .goto (4), 3), (75, .iconst 0, 1), (76, .ireturn, 1)]
set_option maxRecDepth 200000 in
theorem mo_isLineLess_code_ok : px_code prog_13_method_80_code mo_isLineLess_code = true := by decide +kernel
noncomputable def mo_isLineLess_orc : pC := px_orc []
theorem mo_isLineLess_orc_ok {d : Nat} : px_Or (d + 0) (mo_isLineLess_orc) := px_orc_ok (by
  exact px_o0)
set_option maxRecDepth 200000 in
theorem mo_isLineLess_76_ok {d : Nat} : ∀ (s0 : Int32) (h : pH) (q : Int32 × pH), mo_isLineLess_76 s0 h = some q → px_G (d + 0 + 1) (pX_RX11, prog_13_method_80_code, 2, (some .boolean)) 76 [none, none] [.inl s0] h q := by
  intro s0 h q e
  exact px_blk_ok (d := d + 0) (M := (pX_RX11, prog_13_method_80_code, 2, (some .boolean))) (C := mo_isLineLess_orc) (code := mo_isLineLess_code) (ld := []) (kl := []) (mo_isLineLess_orc_ok) pX_ok_RX11 mo_isLineLess_code_ok (px_k0) 48 76 _ _ h q e
set_option maxRecDepth 200000 in
theorem mo_isLineLess_60_ok {d : Nat} : ∀ (h : pH) (q : Int32 × pH), mo_isLineLess_60 h = some q → px_G (d + 0 + 1) (pX_RX11, prog_13_method_80_code, 2, (some .boolean)) 60 [some (.inr (.inl 51)), none] [] h q := by
  intro h q e
  exact px_blk_ok (d := d + 0) (M := (pX_RX11, prog_13_method_80_code, 2, (some .boolean))) (C := mo_isLineLess_orc) (code := mo_isLineLess_code) (ld := [76]) (kl := [(76, fun ls st h => px_if (px_fit [0, 0] ls && px_fits [1] st) (mo_isLineLess_76 (px_si st 0) h))]) (mo_isLineLess_orc_ok) pX_ok_RX11 mo_isLineLess_code_ok (px_k1 (px_ko (ts := [0, 0]) (ss := [1]) fun ls st h q e => mo_isLineLess_76_ok _ _ _ e) px_k0) 48 60 _ _ h q e
set_option maxRecDepth 200000 in
theorem mo_isLineLess_53_ok {d : Nat} : ∀ (s0 : Int32) (h : pH) (q : Int32 × pH), mo_isLineLess_53 s0 h = some q → px_G (d + 0 + 1) (pX_RX11, prog_13_method_80_code, 2, (some .boolean)) 53 [none, none] [.inl s0] h q := by
  intro s0 h q e
  exact px_blk_ok (d := d + 0) (M := (pX_RX11, prog_13_method_80_code, 2, (some .boolean))) (C := mo_isLineLess_orc) (code := mo_isLineLess_code) (ld := []) (kl := []) (mo_isLineLess_orc_ok) pX_ok_RX11 mo_isLineLess_code_ok (px_k0) 48 53 _ _ h q e
set_option maxRecDepth 200000 in
theorem mo_isLineLess_2_ok {d : Nat} : ∀ (n : Nat) (x1 : Int32) (h : pH) (q : Int32 × pH), mo_isLineLess_2 n x1 h = some q → px_G (d + 0 + 1) (pX_RX11, prog_13_method_80_code, 2, (some .boolean)) 2 [some (.inr (.inl 51)), some (.inl x1)] [] h q := by
  intro n
  induction n with
  | zero =>
    intro x1 h q e
    cases e
  | succ n ih =>
    intro x1 h q e
    exact px_blk_ok (d := d + 0) (M := (pX_RX11, prog_13_method_80_code, 2, (some .boolean))) (C := mo_isLineLess_orc) (code := mo_isLineLess_code) (ld := [2, 53, 60]) (kl := [(2, fun ls st h => px_if (px_fit [61, 1] ls && px_fits [] st) (mo_isLineLess_2 n (px_gi ls 1) h)), (53, fun ls st h => px_if (px_fit [0, 0] ls && px_fits [1] st) (mo_isLineLess_53 (px_si st 0) h)), (60, fun ls st h => px_if (px_fit [61, 0] ls && px_fits [] st) (mo_isLineLess_60 h))]) (mo_isLineLess_orc_ok) pX_ok_RX11 mo_isLineLess_code_ok (px_k1 (px_ko (ts := [61, 1]) (ss := []) fun ls st h q e => ih _ _ _ e) (px_k1 (px_ko (ts := [0, 0]) (ss := [1]) fun ls st h q e => mo_isLineLess_53_ok _ _ _ e) (px_k1 (px_ko (ts := [61, 0]) (ss := []) fun ls st h q e => mo_isLineLess_60_ok _ _ e) px_k0))) 48 2 _ _ h q e
set_option maxRecDepth 200000 in
theorem mo_isLineLess_ok {d : Nat} {h : pH} {q : Int32 × pH} (e : mo_isLineLess h = some q) : px_Con (d + 1) 252 [.inr (.inl 51)] h q :=
  px_con (X := pX_RX11) (b := prog_13_method_80_code) (nL := 2) (rt := (some .boolean)) rfl rfl (Nat.le_of_ble_eq_true rfl) rfl (px_blk_ok (d := d + 0) (M := (pX_RX11, prog_13_method_80_code, 2, (some .boolean))) (C := mo_isLineLess_orc) (code := mo_isLineLess_code) (ld := [2]) (kl := [(2, fun ls st h => px_if (px_fit [61, 1] ls && px_fits [] st) (mo_isLineLess_2 px_F (px_gi ls 1) h))]) (mo_isLineLess_orc_ok) pX_ok_RX11 mo_isLineLess_code_ok (px_k1 (px_ko (ts := [61, 1]) (ss := []) fun ls st h q e => mo_isLineLess_2_ok _ _ _ _ e) px_k0) 48 0 _ _ _ q e)
/-! WordsUnsaidModel.endRow(I)Z -/
noncomputable def mo_endRow_194 (h : pH) : pR :=
  px_bz (px_c 0) h
noncomputable def mo_endRow_171 (h : pH) : pR :=
  let h1 := px_w h 51 47 ((h 51 47) + (px_c 1))
  px_if (px_ok 0 71 (h1 51 32)) <|
  px_if (px_ok 0 71 (h1 51 32)) <|
  let h2 := px_w h1 71 (h1 51 32).toNatClampNeg ((h1 71 (h1 51 32).toNatClampNeg) + (px_c 1))
  mo_endRow_194 h2
noncomputable def mo_endRow_145 : Nat → Int32 → pH → pR
  | 0, _, _ => none
  | n + 1, x3, h =>
    if (h 51 30) ≤ x3 then
      mo_endRow_171 h
    else
      px_if (px_ok 0 65 x3) <|
      px_if (px_ok 0 72 x3) <|
      let h1 := px_w h 72 x3.toNatClampNeg (h 65 x3.toNatClampNeg)
      mo_endRow_145 n (x3 + px_c 1) h1
noncomputable def mo_endRow_135 (h : pH) : pR :=
  let h1 := px_w h 51 50 (h 51 30)
  mo_endRow_145 px_F (px_c 0) h1
noncomputable def mo_endRow_91 (x1 : Int32) (x2 : Int32) (h : pH) : pR :=
  if x1 = (px_c 2) then
    if x2 = 0 then
      px_bind (jn_numberOfTrailingZeros (h 51 41) h) fun z1 h2 =>
      px_if (px_ok 0 68 z1) <|
      if (h2 68 z1.toNatClampNeg) = ((px_c 2) + (h2 51 44)) then
        if (h2 51 47) = 0 then
          mo_endRow_135 h2
        else
          px_bind (mo_isLineLess h2) fun z3 h4 =>
          if z3 = 0 then
            mo_endRow_171 h4
          else
            mo_endRow_135 h4
      else
        mo_endRow_194 h2
    else
      mo_endRow_194 h
  else
    mo_endRow_194 h
noncomputable def mo_endRow (x1 : Int32) (h : pH) : pR :=
  px_bind (mo_wordsIn 70 h) fun z1 h2 =>
  px_bind (mo_distance (h2 51 42) (h2 51 43) h2) fun z3 h4 =>
  if z3 ≤ z1 then
    px_bind (mo_lay 70 68 (px_c 0) h4) fun _ h6 =>
    px_bind (mo_goes 68 (h6 51 41) (h6 51 42) (h6 51 43) h6) fun z7 h8 =>
    if x1 = 0 then
      px_bz z7 h8
    else
      if z7 = 0 then
        let h9 := px_w h8 51 46 ((h8 51 46) + (px_c 1))
        mo_endRow_91 x1 z7 h9
      else
        let h10 := px_w h8 51 45 ((h8 51 45) + (px_c 1))
        mo_endRow_91 x1 z7 h10
  else
    px_bz (px_c 0) h4
def mo_endRow_code : pCode := [(0, .aload_n 0, 1), (1, .aload_n 0, 1), (2, .getfield 69, 3), (5, .invokevirtual 309, 3), (8, .aload_n 0, 1), (9, .aload_n 0, 1), (10, .getfield 374, 3), (13, .aload_n 0, 1), (14, .getfield 377, 3), (17, .invokevirtual 268, 3), (20, .if_icmp .ge (5), 3), (23, .iconst 0, 1), (24, .ireturn, 1), (25, .aload_n 0, 1), (26, .getfield 69, 3), (29, .aload_n 0, 1), (30, .getfield 63, 3), (33, .iconst 0, 1), (34, .invokestatic 295, 3), (37, .aload_n 0, 1), (38, .aload_n 0, 1), (39, .getfield 63, 3), (42, .aload_n 0, 1), (43, .getfield 371, 3), (46, .aload_n 0, 1), (47, .getfield 374, 3), (50, .aload_n 0, 1), (51, .getfield 377, 3), (54, .invokevirtual 326, 3), (57, .istore_n 2, 1), (58, .iload_n 1, 1), (59, .ifCond .ne (5), 3), (62, .iload_n 2, 1), (63, .ireturn, 1), (64, .iload_n 2, 1), (65, .ifCond .eq (16), 3), (68, .aload_n 0, 1), (69, .dup, 1), (70, .getfield 380, 3), (73, .iconst 1, 1), (74, .iadd, 1), (75, .putfield 380, 3), (78, .goto (13), 3), (81, .aload_n 0, 1), (82, .dup, 1), (83, .getfield 383, 3), (86, .iconst 1, 1), (87, .iadd, 1), (88, .putfield 383, 3), (91, .iload_n 1, 1), (92, .iconst 2, 1), (93, .if_icmp .ne (101), 3), (96, .iload_n 2, 1), (97, .ifCond .ne (97), 3), (100, .aload_n 0, 1), (101, .getfield 63, 3), (104, .aload_n 0, 1), (105, .getfield 371, 3), (108, .invokestatic 395, 3), (111, .iaload, 1), (112, .iconst 2, 1), (113, .aload_n 0, 1), (114, .getfield 398, 3), (117, .iadd, 1), (118, .if_icmp .ne (76), 3), (121, .aload_n 0, 1), (122, .getfield 386, 3), (125, .ifCond .eq (10), 3), (128, .aload_n 0, 1), (129, .invokevirtual 401, 3), (132, .ifCond .eq (39), 3), (135, .aload_n 0, 1), (136, .aload_n 0, 1), (137, .getfield 292, 3), (140, .putfield 404, 3), (143, .iconst 0, 1), (144, .istore_n 3, 1), (145, .iload_n 3, 1), (146, .aload_n 0, 1), (147, .getfield 292, 3), (150, .if_icmp .ge (21), 3), (153, .aload_n 0, 1), (154, .getfield 75, 3), (157, .iload_n 3, 1), (158, .aload_n 0, 1), (159, .getfield 54, 3), (162, .iload_n 3, 1), (163, .iaload, 1), (164, .iastore, 1), (165, .iinc 3 (1), 3), (168, .goto (-23), 3), (171, .aload_n 0, 1), (172, .dup, 1), (173, .getfield 386, 3), (176, .iconst 1, 1), (177, .iadd, 1), (178, .putfield 386, 3), (181, .aload_n 0, 1), (182, .getfield 72, 3), (185, .aload_n 0, 1), (186, .getfield 274, 3), (189, .dup2, 1), (190, .iaload, 1), (191, .iconst 1, 1), (192, .iadd, 1), (193, .iastore, 1), (194, .iconst 0, 1), (195, .ireturn, 1)]
set_option maxRecDepth 200000 in
theorem mo_endRow_code_ok : px_code prog_13_method_79_code mo_endRow_code = true := by decide +kernel
noncomputable def mo_endRow_orc : pC := px_orc [(280, fun a h => match a with
    | [.inl v0] => jn_numberOfTrailingZeros v0 h
    | _ => none), (252, fun a h => match a with
    | [.inr (.inl 51)] => mo_isLineLess h
    | _ => none), (222, fun a h => match a with
    | [.inr (.inl 51), .inr (.inl v1)] => mo_wordsIn v1 h
    | _ => none), (218, fun a h => match a with
    | [.inr (.inl 51), .inl v1, .inl v2] => mo_distance v1 v2 h
    | _ => none), (223, fun a h => match a with
    | [.inr (.inl v0), .inr (.inl v1), .inl v2] => mo_lay v0 v1 v2 h
    | _ => none), (219, fun a h => match a with
    | [.inr (.inl 51), .inr (.inl v1), .inl v2, .inl v3, .inl v4] => mo_goes v1 v2 v3 v4 h
    | _ => none)]
theorem mo_endRow_orc_ok {d : Nat} : px_Or (d + 106) (mo_endRow_orc) := px_orc_ok (by
  refine px_o1 (fun a h q e => by
    dsimp only at e
    split at e
    · exact jn_numberOfTrailingZeros_ok (d := d + 105) e
    · cases e) ?_
  refine px_o1 (fun a h q e => by
    dsimp only at e
    split at e
    · exact mo_isLineLess_ok (d := d + 105) e
    · cases e) ?_
  refine px_o1 (fun a h q e => by
    dsimp only at e
    split at e
    · exact mo_wordsIn_ok (d := d + 105) e
    · cases e) ?_
  refine px_o1 (fun a h q e => by
    dsimp only at e
    split at e
    · exact mo_distance_ok (d := d + 104) e
    · cases e) ?_
  refine px_o1 (fun a h q e => by
    dsimp only at e
    split at e
    · exact mo_lay_ok (d := d + 105) e
    · cases e) ?_
  refine px_o1 (fun a h q e => by
    dsimp only at e
    split at e
    · exact mo_goes_ok (d := d + 0) e
    · cases e) ?_
  exact px_o0)
set_option maxRecDepth 200000 in
theorem mo_endRow_194_ok {d : Nat} : ∀ (h : pH) (q : Int32 × pH), mo_endRow_194 h = some q → px_G (d + 106 + 1) (pX_RX11, prog_13_method_79_code, 4, (some .boolean)) 194 [none, none, none, none] [] h q := by
  intro h q e
  exact px_blk_ok (d := d + 106) (M := (pX_RX11, prog_13_method_79_code, 4, (some .boolean))) (C := mo_endRow_orc) (code := mo_endRow_code) (ld := []) (kl := []) (mo_endRow_orc_ok) pX_ok_RX11 mo_endRow_code_ok (px_k0) 113 194 _ _ h q e
set_option maxRecDepth 200000 in
theorem mo_endRow_171_ok {d : Nat} : ∀ (h : pH) (q : Int32 × pH), mo_endRow_171 h = some q → px_G (d + 106 + 1) (pX_RX11, prog_13_method_79_code, 4, (some .boolean)) 171 [some (.inr (.inl 51)), none, none, none] [] h q := by
  intro h q e
  exact px_blk_ok (d := d + 106) (M := (pX_RX11, prog_13_method_79_code, 4, (some .boolean))) (C := mo_endRow_orc) (code := mo_endRow_code) (ld := [194]) (kl := [(194, fun ls st h => px_if (px_fit [0, 0, 0, 0] ls && px_fits [] st) (mo_endRow_194 h))]) (mo_endRow_orc_ok) pX_ok_RX11 mo_endRow_code_ok (px_k1 (px_ko (ts := [0, 0, 0, 0]) (ss := []) fun ls st h q e => mo_endRow_194_ok _ _ e) px_k0) 113 171 _ _ h q e
set_option maxRecDepth 200000 in
theorem mo_endRow_145_ok {d : Nat} : ∀ (n : Nat) (x3 : Int32) (h : pH) (q : Int32 × pH), mo_endRow_145 n x3 h = some q → px_G (d + 106 + 1) (pX_RX11, prog_13_method_79_code, 4, (some .boolean)) 145 [some (.inr (.inl 51)), none, none, some (.inl x3)] [] h q := by
  intro n
  induction n with
  | zero =>
    intro x3 h q e
    cases e
  | succ n ih =>
    intro x3 h q e
    exact px_blk_ok (d := d + 106) (M := (pX_RX11, prog_13_method_79_code, 4, (some .boolean))) (C := mo_endRow_orc) (code := mo_endRow_code) (ld := [145, 171]) (kl := [(145, fun ls st h => px_if (px_fit [61, 0, 0, 1] ls && px_fits [] st) (mo_endRow_145 n (px_gi ls 3) h)), (171, fun ls st h => px_if (px_fit [61, 0, 0, 0] ls && px_fits [] st) (mo_endRow_171 h))]) (mo_endRow_orc_ok) pX_ok_RX11 mo_endRow_code_ok (px_k1 (px_ko (ts := [61, 0, 0, 1]) (ss := []) fun ls st h q e => ih _ _ _ e) (px_k1 (px_ko (ts := [61, 0, 0, 0]) (ss := []) fun ls st h q e => mo_endRow_171_ok _ _ e) px_k0)) 113 145 _ _ h q e
set_option maxRecDepth 200000 in
theorem mo_endRow_135_ok {d : Nat} : ∀ (h : pH) (q : Int32 × pH), mo_endRow_135 h = some q → px_G (d + 106 + 1) (pX_RX11, prog_13_method_79_code, 4, (some .boolean)) 135 [some (.inr (.inl 51)), none, none, none] [] h q := by
  intro h q e
  exact px_blk_ok (d := d + 106) (M := (pX_RX11, prog_13_method_79_code, 4, (some .boolean))) (C := mo_endRow_orc) (code := mo_endRow_code) (ld := [145]) (kl := [(145, fun ls st h => px_if (px_fit [61, 0, 0, 1] ls && px_fits [] st) (mo_endRow_145 px_F (px_gi ls 3) h))]) (mo_endRow_orc_ok) pX_ok_RX11 mo_endRow_code_ok (px_k1 (px_ko (ts := [61, 0, 0, 1]) (ss := []) fun ls st h q e => mo_endRow_145_ok _ _ _ _ e) px_k0) 113 135 _ _ h q e
set_option maxRecDepth 200000 in
theorem mo_endRow_91_ok {d : Nat} : ∀ (x1 : Int32) (x2 : Int32) (h : pH) (q : Int32 × pH), mo_endRow_91 x1 x2 h = some q → px_G (d + 106 + 1) (pX_RX11, prog_13_method_79_code, 4, (some .boolean)) 91 [some (.inr (.inl 51)), some (.inl x1), some (.inl x2), none] [] h q := by
  intro x1 x2 h q e
  exact px_blk_ok (d := d + 106) (M := (pX_RX11, prog_13_method_79_code, 4, (some .boolean))) (C := mo_endRow_orc) (code := mo_endRow_code) (ld := [135, 171, 194]) (kl := [(135, fun ls st h => px_if (px_fit [61, 0, 0, 0] ls && px_fits [] st) (mo_endRow_135 h)), (171, fun ls st h => px_if (px_fit [61, 0, 0, 0] ls && px_fits [] st) (mo_endRow_171 h)), (194, fun ls st h => px_if (px_fit [0, 0, 0, 0] ls && px_fits [] st) (mo_endRow_194 h))]) (mo_endRow_orc_ok) pX_ok_RX11 mo_endRow_code_ok (px_k1 (px_ko (ts := [61, 0, 0, 0]) (ss := []) fun ls st h q e => mo_endRow_135_ok _ _ e) (px_k1 (px_ko (ts := [61, 0, 0, 0]) (ss := []) fun ls st h q e => mo_endRow_171_ok _ _ e) (px_k1 (px_ko (ts := [0, 0, 0, 0]) (ss := []) fun ls st h q e => mo_endRow_194_ok _ _ e) px_k0))) 113 91 _ _ h q e
set_option maxRecDepth 200000 in
theorem mo_endRow_ok {d : Nat} {x1 : Int32} {h : pH} {q : Int32 × pH} (e : mo_endRow x1 h = some q) : px_Con (d + 107) 251 [.inr (.inl 51), .inl x1] h q :=
  px_con (X := pX_RX11) (b := prog_13_method_79_code) (nL := 4) (rt := (some .boolean)) rfl rfl (Nat.le_of_ble_eq_true rfl) rfl (px_blk_ok (d := d + 106) (M := (pX_RX11, prog_13_method_79_code, 4, (some .boolean))) (C := mo_endRow_orc) (code := mo_endRow_code) (ld := [91]) (kl := [(91, fun ls st h => px_if (px_fit [61, 1, 1, 0] ls && px_fits [] st) (mo_endRow_91 (px_gi ls 1) (px_gi ls 2) h))]) (mo_endRow_orc_ok) pX_ok_RX11 mo_endRow_code_ok (px_k1 (px_ko (ts := [61, 1, 1, 0]) (ss := []) fun ls st h q e => mo_endRow_91_ok _ _ _ _ e) px_k0) 113 0 _ _ _ q e)
noncomputable def mo_goRow_88 (rc : pC) (r16 : Int32 → Int32 → Int32 → pH → pR) (x1 : Int32) (x2 : Int32) (x3 : Int32) (h : pH) : pR :=
  r16 x1 x2 (x3 + px_c 1) h
noncomputable def mo_goRow_16 (rc : pC) : Nat → Int32 → Int32 → Int32 → pH → pR
  | 0, _, _, _, _ => none
  | n + 1, x1, x2, x3, h =>
    if (h 51 6) ≤ x3 then
      px_bz (px_c 0) h
    else
      px_bind (mo_canLine 70 x3 (h 51 41) h) fun z1 h2 =>
      if z1 = 0 then
        mo_goRow_88 rc (mo_goRow_16 rc n) x1 x2 x3 h2
      else
        px_if (px_ok 0 65 (h2 51 30)) <|
        let h3 := px_w h2 65 (h2 51 30).toNatClampNeg x3
        let h4 := px_w h3 51 30 ((h3 51 30) + (px_c 1))
        px_bind (rc 250 [.inr (.inl 51), .inl x1, .inl x2] h4) fun z5 h6 =>
        if z5 = 0 then
          let h7 := px_w h6 51 30 ((h6 51 30) - (px_c 1))
          mo_goRow_88 rc (mo_goRow_16 rc n) x1 x2 x3 h7
        else
          px_bz (px_c 1) h6
noncomputable def mo_goRow (rc : pC) (x1 : Int32) (x2 : Int32) (h : pH) : pR :=
  if (h 51 30) = x1 then
    px_bind (mo_endRow x2 h) fun z1 h2 =>
    px_bz z1 h2
  else
    mo_goRow_16 rc px_F x1 x2 (px_c 0) h
def mo_goRow_code : pCode := [(0, .aload_n 0, 1), (1, .getfield 292, 3), (4, .iload_n 1, 1), (5, .if_icmp .ne (9), 3), (8, .aload_n 0, 1), (9, .iload_n 2, 1), (10, .invokevirtual 392, 3), (13, .ireturn, 1), (14, .iconst 0, 1), (15, .istore_n 3, 1), (16, .iload_n 3, 1), (17, .aload_n 0, 1), (18, .getfield 119, 3), (21, .if_icmp .ge (73), 3), (24, .aload_n 0, 1), (25, .aload_n 0, 1), (26, .getfield 69, 3), (29, .iload_n 3, 1), (30, .aload_n 0, 1), (31, .getfield 371, 3), (34, .invokevirtual 305, 3), (37, .ifCond .ne (6), 3), (40, .goto (48), 3), (43, .aload_n 0, 1), (44, .getfield 54, 3), (47, .aload_n 0, 1), (48, .getfield 292, 3), (51, .iload_n 3, 1), (52, .iastore, 1), (53, .aload_n 0, 1), (54, .dup, 1), (55, .getfield 292, 3), (58, .iconst 1, 1), (59, .iadd, 1), (60, .putfield 292, 3), (63, .aload_n 0, 1), (64, .iload_n 1, 1), (65, .iload_n 2, 1), (66, .invokevirtual 389, 3), (69, .istore 4, 2), (71, .iload 4, 2), (73, .ifCond .eq (5), 3), (76, .iconst 1, 1), (77, .ireturn, 1), (78, .aload_n 0, 1), (79, .dup, 1), (80, .getfield 292, 3), (83, .iconst 1, 1), (84, .isub, 1), (85, .putfield 292, 3), (88, .iinc 3 (1), 3), (91, .goto (-75), 3), (94, .iconst 0, 1), (95, .ireturn, 1)]
set_option maxRecDepth 200000 in
theorem mo_goRow_code_ok : px_code prog_13_method_78_code mo_goRow_code = true := by decide +kernel
noncomputable def mo_goRow_orc (rc : pC) : pC := fun id a h => if id ∈ ([250] : List Nat) then rc id a h else px_orc [(226, fun a h => match a with
    | [.inr (.inl 51), .inr (.inl v1), .inl v2, .inl v3] => mo_canLine v1 v2 v3 h
    | _ => none), (251, fun a h => match a with
    | [.inr (.inl 51), .inl v1] => mo_endRow v1 h
    | _ => none)] id a h
theorem mo_goRow_orc_ok {d : Nat} {rc : pC} (hrc : px_Or (d + 107) rc) : px_Or (d + 107) (mo_goRow_orc rc) := by
  intro id a h q e
  unfold mo_goRow_orc at e
  split at e
  · exact hrc id a h q e
  · revert e
    revert q
    revert h
    revert a
    revert id
    show ∀ id, ¬ _ → ∀ a h q, _ → _
    intro id _
    revert id
    exact px_orc_ok (by
      refine px_o1 (fun a h q e => by
        dsimp only at e
        split at e
        · exact mo_canLine_ok (d := d + 104) e
        · cases e) ?_
      refine px_o1 (fun a h q e => by
        dsimp only at e
        split at e
        · exact mo_endRow_ok (d := d + 0) e
        · cases e) ?_
      exact px_o0)
set_option maxRecDepth 200000 in
theorem mo_goRow_88_ok {d : Nat} {rc : pC} (hrc : px_Or (d + 107) rc) {r16 : Int32 → Int32 → Int32 → pH → pR} (hr16 : ∀ (x1 : Int32) (x2 : Int32) (x3 : Int32) (h : pH) (q : Int32 × pH), r16 x1 x2 x3 h = some q → px_G (d + 107 + 1) (pX_RX11, prog_13_method_78_code, 5, (some .boolean)) 16 [some (.inr (.inl 51)), some (.inl x1), some (.inl x2), some (.inl x3), none] [] h q) : ∀ (x1 : Int32) (x2 : Int32) (x3 : Int32) (h : pH) (q : Int32 × pH), mo_goRow_88 rc r16 x1 x2 x3 h = some q → px_G (d + 107 + 1) (pX_RX11, prog_13_method_78_code, 5, (some .boolean)) 88 [some (.inr (.inl 51)), some (.inl x1), some (.inl x2), some (.inl x3), none] [] h q := by
  intro x1 x2 x3 h q e
  exact px_blk_ok (d := d + 107) (M := (pX_RX11, prog_13_method_78_code, 5, (some .boolean))) (C := mo_goRow_orc rc) (code := mo_goRow_code) (ld := [16]) (kl := [(16, fun ls st h => px_if (px_fit [61, 1, 1, 1, 0] ls && px_fits [] st) (r16 (px_gi ls 1) (px_gi ls 2) (px_gi ls 3) h))]) (mo_goRow_orc_ok hrc) pX_ok_RX11 mo_goRow_code_ok (px_k1 (px_ko (ts := [61, 1, 1, 1, 0]) (ss := []) fun ls st h q e => hr16 _ _ _ _ _ e) px_k0) 59 88 _ _ h q e
set_option maxRecDepth 200000 in
theorem mo_goRow_16_ok {d : Nat} {rc : pC} (hrc : px_Or (d + 107) rc) : ∀ (n : Nat) (x1 : Int32) (x2 : Int32) (x3 : Int32) (h : pH) (q : Int32 × pH), mo_goRow_16 rc n x1 x2 x3 h = some q → px_G (d + 107 + 1) (pX_RX11, prog_13_method_78_code, 5, (some .boolean)) 16 [some (.inr (.inl 51)), some (.inl x1), some (.inl x2), some (.inl x3), none] [] h q := by
  intro n
  induction n with
  | zero =>
    intro x1 x2 x3 h q e
    cases e
  | succ n ih =>
    intro x1 x2 x3 h q e
    exact px_blk_ok (d := d + 107) (M := (pX_RX11, prog_13_method_78_code, 5, (some .boolean))) (C := mo_goRow_orc rc) (code := mo_goRow_code) (ld := [88]) (kl := [(88, fun ls st h => px_if (px_fit [61, 1, 1, 1, 0] ls && px_fits [] st) (mo_goRow_88 rc (mo_goRow_16 rc n) (px_gi ls 1) (px_gi ls 2) (px_gi ls 3) h))]) (mo_goRow_orc_ok hrc) pX_ok_RX11 mo_goRow_code_ok (px_k1 (px_ko (ts := [61, 1, 1, 1, 0]) (ss := []) fun ls st h q e => mo_goRow_88_ok hrc ih _ _ _ _ _ e) px_k0) 59 16 _ _ h q e
set_option maxRecDepth 200000 in
theorem mo_goRow_ok {d : Nat} {rc : pC} (hrc : px_Or (d + 107) rc) {x1 : Int32} {x2 : Int32} {h : pH} {q : Int32 × pH} (e : mo_goRow rc x1 x2 h = some q) : px_Con (d + 108) 250 [.inr (.inl 51), .inl x1, .inl x2] h q :=
  px_con (X := pX_RX11) (b := prog_13_method_78_code) (nL := 5) (rt := (some .boolean)) rfl rfl (Nat.le_of_ble_eq_true rfl) rfl (px_blk_ok (d := d + 107) (M := (pX_RX11, prog_13_method_78_code, 5, (some .boolean))) (C := mo_goRow_orc rc) (code := mo_goRow_code) (ld := [16]) (kl := [(16, fun ls st h => px_if (px_fit [61, 1, 1, 1, 0] ls && px_fits [] st) (mo_goRow_16 rc px_F (px_gi ls 1) (px_gi ls 2) (px_gi ls 3) h))]) (mo_goRow_orc_ok hrc) pX_ok_RX11 mo_goRow_code_ok (px_k1 (px_ko (ts := [61, 1, 1, 1, 0]) (ss := []) fun ls st h q e => mo_goRow_16_ok hrc _ _ _ _ _ _ e) px_k0) 59 0 _ _ _ q e)
noncomputable def mo_goRowG : Nat → pC
  | 0 => fun _ _ _ => none
  | n + 1 => px_orc [(250, fun a h => match a with
      | [.inr (.inl 51), .inl v1, .inl v2] => mo_goRow (mo_goRowG n) v1 v2 h
      | _ => none)]
theorem mo_goRowG_ok {d : Nat} : ∀ n : Nat, px_Or (d + n + 107) (mo_goRowG n) := by
  intro n
  induction n with
  | zero => intro id a h q e; cases e
  | succ n ih =>
    show px_Or (d + n + 107 + 1) _
    refine px_orc_ok ?_
    refine px_o1 (fun a h q e => by
      dsimp only at e
      split at e
      · exact mo_goRow_ok (d := d + n) ih e
      · cases e) ?_
    exact px_o0
noncomputable def mo_goRowT (x1 : Int32) (x2 : Int32) (h : pH) : pR := mo_goRowG 10 250 [.inr (.inl 51), .inl x1, .inl x2] h
theorem mo_goRowT_ok {d : Nat} {x1 : Int32} {x2 : Int32} {h : pH} {q : Int32 × pH} (e : mo_goRowT x1 x2 h = some q) : px_Con (d + 117) 250 [.inr (.inl 51), .inl x1, .inl x2] h q := mo_goRowG_ok (d := d) 10 250 _ h q e
/-! WordsUnsaidModel.goRows(II)Z -/
noncomputable def mo_goRows (x1 : Int32) (x2 : Int32) (h : pH) : pR :=
  let h1 := px_w h 51 30 (px_c 0)
  px_bind (mo_goRowT x1 x2 h1) fun z2 h3 =>
  px_bz z2 h3
def mo_goRows_code : pCode := [(0, .aload_n 0, 1), (1, .iconst 0, 1), (2, .putfield 292, 3), (5, .aload_n 0, 1), (6, .iload_n 1, 1), (7, .iload_n 2, 1), (8, .invokevirtual 389, 3), (11, .ireturn, 1)]
set_option maxRecDepth 200000 in
theorem mo_goRows_code_ok : px_code prog_13_method_77_code mo_goRows_code = true := by decide +kernel
noncomputable def mo_goRows_orc : pC := px_orc [(250, fun a h => match a with
    | [.inr (.inl 51), .inl v1, .inl v2] => mo_goRowT v1 v2 h
    | _ => none)]
theorem mo_goRows_orc_ok {d : Nat} : px_Or (d + 117) (mo_goRows_orc) := px_orc_ok (by
  refine px_o1 (fun a h q e => by
    dsimp only at e
    split at e
    · exact mo_goRowT_ok (d := d + 0) e
    · cases e) ?_
  exact px_o0)
set_option maxRecDepth 200000 in
theorem mo_goRows_ok {d : Nat} {x1 : Int32} {x2 : Int32} {h : pH} {q : Int32 × pH} (e : mo_goRows x1 x2 h = some q) : px_Con (d + 118) 249 [.inr (.inl 51), .inl x1, .inl x2] h q :=
  px_con (X := pX_RX11) (b := prog_13_method_77_code) (nL := 3) (rt := (some .boolean)) rfl rfl (Nat.le_of_ble_eq_true rfl) rfl (px_blk_ok (d := d + 117) (M := (pX_RX11, prog_13_method_77_code, 3, (some .boolean))) (C := mo_goRows_orc) (code := mo_goRows_code) (ld := []) (kl := []) (mo_goRows_orc_ok) pX_ok_RX11 mo_goRows_code_ok (px_k0) 13 0 _ _ _ q e)
/-! WordsUnsaidModel.leastRow([IIIII)I -/
noncomputable def mo_leastRow_12 : Nat → Int32 → Int32 → pH → pR
  | 0, _, _, _ => none
  | n + 1, x5, x6, h =>
    if x5 < x6 then
      some (px_c 0, h)
    else
      px_bind (mo_goRows x6 (px_c 0) h) fun z1 h2 =>
      if z1 = 0 then
        mo_leastRow_12 n x5 (x6 + px_c 1) h2
      else
        some (x6, h2)
noncomputable def mo_leastRow (a1 : Nat) (x2 : Int32) (x3 : Int32) (x4 : Int32) (x5 : Int32) (h : pH) : pR :=
  px_bind (mo_beginRows a1 x2 x3 x4 h) fun _ h2 =>
  mo_leastRow_12 px_F x5 (px_c 1) h2
def mo_leastRow_code : pCode := [(0, .aload_n 0, 1), (1, .aload_n 1, 1), (2, .iload_n 2, 1), (3, .iload_n 3, 1), (4, .iload 4, 2), (6, .invokevirtual 407, 3), (9, .iconst 1, 1), (10, .istore 6, 2), (12, .iload 6, 2), (14, .iload 5, 2), (16, .if_icmp .gt (22), 3), (19, .aload_n 0, 1), (20, .iload 6, 2), (22, .iconst 0, 1), (23, .invokevirtual 411, 3), (26, .ifCond .eq (6), 3), (29, .iload 6, 2), (31, .ireturn, 1), (32, .iinc 6 (1), 3), (35, .goto (-23), 3), (38, .iconst 0, 1), (39, .ireturn, 1)]
set_option maxRecDepth 200000 in
theorem mo_leastRow_code_ok : px_code prog_13_method_81_code mo_leastRow_code = true := by decide +kernel
noncomputable def mo_leastRow_orc : pC := px_orc [(249, fun a h => match a with
    | [.inr (.inl 51), .inl v1, .inl v2] => mo_goRows v1 v2 h
    | _ => none), (248, fun a h => match a with
    | [.inr (.inl 51), .inr (.inl v1), .inl v2, .inl v3, .inl v4] => mo_beginRows v1 v2 v3 v4 h
    | _ => none)]
theorem mo_leastRow_orc_ok {d : Nat} : px_Or (d + 118) (mo_leastRow_orc) := px_orc_ok (by
  refine px_o1 (fun a h q e => by
    dsimp only at e
    split at e
    · exact mo_goRows_ok (d := d + 0) e
    · cases e) ?_
  refine px_o1 (fun a h q e => by
    dsimp only at e
    split at e
    · exact mo_beginRows_ok (d := d + 116) e
    · cases e) ?_
  exact px_o0)
set_option maxRecDepth 200000 in
theorem mo_leastRow_12_ok {d : Nat} : ∀ (n : Nat) (x5 : Int32) (x6 : Int32) (h : pH) (q : Int32 × pH), mo_leastRow_12 n x5 x6 h = some q → px_G (d + 118 + 1) (pX_RX11, prog_13_method_81_code, 7, (some .int)) 12 [some (.inr (.inl 51)), none, none, none, none, some (.inl x5), some (.inl x6)] [] h q := by
  intro n
  induction n with
  | zero =>
    intro x5 x6 h q e
    cases e
  | succ n ih =>
    intro x5 x6 h q e
    exact px_blk_ok (d := d + 118) (M := (pX_RX11, prog_13_method_81_code, 7, (some .int))) (C := mo_leastRow_orc) (code := mo_leastRow_code) (ld := [12]) (kl := [(12, fun ls st h => px_if (px_fit [61, 0, 0, 0, 0, 1, 1] ls && px_fits [] st) (mo_leastRow_12 n (px_gi ls 5) (px_gi ls 6) h))]) (mo_leastRow_orc_ok) pX_ok_RX11 mo_leastRow_code_ok (px_k1 (px_ko (ts := [61, 0, 0, 0, 0, 1, 1]) (ss := []) fun ls st h q e => ih _ _ _ _ e) px_k0) 27 12 _ _ h q e
set_option maxRecDepth 200000 in
theorem mo_leastRow_ok {d : Nat} {a1 : Nat} {x2 : Int32} {x3 : Int32} {x4 : Int32} {x5 : Int32} {h : pH} {q : Int32 × pH} (e : mo_leastRow a1 x2 x3 x4 x5 h = some q) : px_Con (d + 119) 253 [.inr (.inl 51), .inr (.inl a1), .inl x2, .inl x3, .inl x4, .inl x5] h q :=
  px_con (X := pX_RX11) (b := prog_13_method_81_code) (nL := 7) (rt := (some .int)) rfl rfl (Nat.le_of_ble_eq_true rfl) rfl (px_blk_ok (d := d + 118) (M := (pX_RX11, prog_13_method_81_code, 7, (some .int))) (C := mo_leastRow_orc) (code := mo_leastRow_code) (ld := [12]) (kl := [(12, fun ls st h => px_if (px_fit [61, 0, 0, 0, 0, 1, 1] ls && px_fits [] st) (mo_leastRow_12 px_F (px_gi ls 5) (px_gi ls 6) h))]) (mo_leastRow_orc_ok) pX_ok_RX11 mo_leastRow_code_ok (px_k1 (px_ko (ts := [61, 0, 0, 0, 0, 1, 1]) (ss := []) fun ls st h q e => mo_leastRow_12_ok _ _ _ _ _ e) px_k0) 27 0 _ _ _ q e)
/-! WordsUnsaidModel.canGo(II)Z -/
noncomputable def mo_canGo_30 (s0 : Int32) (h : pH) : pR :=
  px_bz s0 h
noncomputable def mo_canGo_29 (h : pH) : pR :=
  mo_canGo_30 (px_c 0) h
noncomputable def mo_canGo (x1 : Int32) (x2 : Int32) (h : pH) : pR :=
  px_bind (mo_isPerson x1 h) fun z1 h2 =>
  if z1 = 0 then
    mo_canGo_29 h2
  else
    px_bind (mo_isBank x2 h2) fun z3 h4 =>
    if z3 = 0 then
      mo_canGo_29 h4
    else
      px_if (px_ok 0 52 x1) <|
      if (h4 52 x1.toNatClampNeg) = x2 then
        mo_canGo_29 h4
      else
        mo_canGo_30 (px_c 1) h4
def mo_canGo_code : pCode := [(0, .aload_n 0, 1), (1, .iload_n 1, 1), (2, .invokevirtual 122, 3), (5, .ifCond .eq (24), 3), (8, .iload_n 2, 1), (9, .invokestatic 302, 3), (12, .ifCond .eq (17), 3), (15, .aload_n 0, 1), (16, .getfield 9, 3), (19, .iload_n 1, 1), (20, .iaload, 1), (21, .iload_n 2, 1), (22, .if_icmp .eq (7), 3), (25, .iconst 1, 1), (26, .goto (4), 3), (29, .iconst 0, 1), (30, .ireturn, 1)]
set_option maxRecDepth 200000 in
theorem mo_canGo_code_ok : px_code prog_13_method_82_code mo_canGo_code = true := by decide +kernel
noncomputable def mo_canGo_orc : pC := px_orc [(179, fun a h => match a with
    | [.inr (.inl 51), .inl v1] => mo_isPerson v1 h
    | _ => none), (183, fun a h => match a with
    | [.inl v0] => mo_isBank v0 h
    | _ => none)]
theorem mo_canGo_orc_ok {d : Nat} : px_Or (d + 2) (mo_canGo_orc) := px_orc_ok (by
  refine px_o1 (fun a h q e => by
    dsimp only at e
    split at e
    · exact mo_isPerson_ok (d := d + 0) e
    · cases e) ?_
  refine px_o1 (fun a h q e => by
    dsimp only at e
    split at e
    · exact mo_isBank_ok (d := d + 0) e
    · cases e) ?_
  exact px_o0)
set_option maxRecDepth 200000 in
theorem mo_canGo_30_ok {d : Nat} : ∀ (s0 : Int32) (h : pH) (q : Int32 × pH), mo_canGo_30 s0 h = some q → px_G (d + 2 + 1) (pX_RX11, prog_13_method_82_code, 3, (some .boolean)) 30 [none, none, none] [.inl s0] h q := by
  intro s0 h q e
  exact px_blk_ok (d := d + 2) (M := (pX_RX11, prog_13_method_82_code, 3, (some .boolean))) (C := mo_canGo_orc) (code := mo_canGo_code) (ld := []) (kl := []) (mo_canGo_orc_ok) pX_ok_RX11 mo_canGo_code_ok (px_k0) 22 30 _ _ h q e
set_option maxRecDepth 200000 in
theorem mo_canGo_29_ok {d : Nat} : ∀ (h : pH) (q : Int32 × pH), mo_canGo_29 h = some q → px_G (d + 2 + 1) (pX_RX11, prog_13_method_82_code, 3, (some .boolean)) 29 [none, none, none] [] h q := by
  intro h q e
  exact px_blk_ok (d := d + 2) (M := (pX_RX11, prog_13_method_82_code, 3, (some .boolean))) (C := mo_canGo_orc) (code := mo_canGo_code) (ld := [30]) (kl := [(30, fun ls st h => px_if (px_fit [0, 0, 0] ls && px_fits [1] st) (mo_canGo_30 (px_si st 0) h))]) (mo_canGo_orc_ok) pX_ok_RX11 mo_canGo_code_ok (px_k1 (px_ko (ts := [0, 0, 0]) (ss := [1]) fun ls st h q e => mo_canGo_30_ok _ _ _ e) px_k0) 22 29 _ _ h q e
set_option maxRecDepth 200000 in
theorem mo_canGo_ok {d : Nat} {x1 : Int32} {x2 : Int32} {h : pH} {q : Int32 × pH} (e : mo_canGo x1 x2 h = some q) : px_Con (d + 3) 254 [.inr (.inl 51), .inl x1, .inl x2] h q :=
  px_con (X := pX_RX11) (b := prog_13_method_82_code) (nL := 3) (rt := (some .boolean)) rfl rfl (Nat.le_of_ble_eq_true rfl) rfl (px_blk_ok (d := d + 2) (M := (pX_RX11, prog_13_method_82_code, 3, (some .boolean))) (C := mo_canGo_orc) (code := mo_canGo_code) (ld := [29, 30]) (kl := [(29, fun ls st h => px_if (px_fit [0, 0, 0] ls && px_fits [] st) (mo_canGo_29 h)), (30, fun ls st h => px_if (px_fit [0, 0, 0] ls && px_fits [1] st) (mo_canGo_30 (px_si st 0) h))]) (mo_canGo_orc_ok) pX_ok_RX11 mo_canGo_code_ok (px_k1 (px_ko (ts := [0, 0, 0]) (ss := []) fun ls st h q e => mo_canGo_29_ok _ _ e) (px_k1 (px_ko (ts := [0, 0, 0]) (ss := [1]) fun ls st h q e => mo_canGo_30_ok _ _ _ e) px_k0)) 22 0 _ _ _ q e)
/-! WordsUnsaidModel.fewest(II)I -/
noncomputable def mo_fewest_51 : Nat → Int32 → Int32 → pH → pR
  | 0, _, _, _ => none
  | n + 1, x3, x4, h =>
    if x3 ≤ x4 then
      some (x3, h)
    else
      px_if (px_ok 0 65 x4) <|
      px_bind (mo_tell (h 65 x4.toNatClampNeg) h) fun _ h2 =>
      mo_fewest_51 n x3 (x4 + px_c 1) h2
noncomputable def mo_fewest (x1 : Int32) (x2 : Int32) (h : pH) : pR :=
  let h1 := px_w h 51 14 (px_c 0)
  px_bind (mo_canGo x1 x2 h1) fun z2 h3 =>
  if z2 = 0 then
    some (px_c (-1), h3)
  else
    px_if (px_ok 0 52 x1) <|
    px_bind (mo_leastRow 52 ((px_c 1) <<< (x1 &&& 31)) (h3 52 x1.toNatClampNeg) x2 (px_c 4) h3) fun z4 h5 =>
    if z4 = 0 then
      some (px_c (-2), h5)
    else
      let h6 := px_w h5 51 13 (px_c 0)
      mo_fewest_51 px_F z4 (px_c 0) h6
def mo_fewest_code : pCode := [(0, .aload_n 0, 1), (1, .iconst 0, 1), (2, .putfield 106, 3), (5, .aload_n 0, 1), (6, .iload_n 1, 1), (7, .iload_n 2, 1), (8, .invokevirtual 414, 3), (11, .ifCond .ne (5), 3), (14, .iconst (-1), 1), (15, .ireturn, 1), (16, .aload_n 0, 1), (17, .aload_n 0, 1), (18, .getfield 9, 3), (21, .iconst 1, 1), (22, .iload_n 1, 1), (23, .ishl, 1), (24, .aload_n 0, 1), (25, .getfield 9, 3), (28, .iload_n 1, 1), (29, .iaload, 1), (30, .iload_n 2, 1), (31, .iconst 4, 1), (32, .invokevirtual 417, 3), (35, .istore_n 3, 1), (36, .iload_n 3, 1), (37, .ifCond .ne (6), 3), (40, .bipush (-2), 2), (42, .ireturn, 1), (43, .aload_n 0, 1), (44, .iconst 0, 1), (45, .putfield 109, 3), (48, .iconst 0, 1), (49, .istore 4, 2), (51, .iload 4, 2), (53, .iload_n 3, 1), (54, .if_icmp .ge (20), 3), (57, .aload_n 0, 1), (58, .aload_n 0, 1), (59, .getfield 54, 3), (62, .iload 4, 2), (64, .iaload, 1), (65, .invokevirtual 312, 3), (68, .iinc 4 (1), 3), (71, .goto (-20), 3), (74, .iload_n 3, 1), (75, .ireturn, 1)]
set_option maxRecDepth 200000 in
theorem mo_fewest_code_ok : px_code prog_13_method_83_code mo_fewest_code = true := by decide +kernel
noncomputable def mo_fewest_orc : pC := px_orc [(178, fun a h => match a with
    | [.inr (.inl 51), .inl v1] => mo_tell v1 h
    | _ => none), (254, fun a h => match a with
    | [.inr (.inl 51), .inl v1, .inl v2] => mo_canGo v1 v2 h
    | _ => none), (253, fun a h => match a with
    | [.inr (.inl 51), .inr (.inl v1), .inl v2, .inl v3, .inl v4, .inl v5] => mo_leastRow v1 v2 v3 v4 v5 h
    | _ => none)]
theorem mo_fewest_orc_ok {d : Nat} : px_Or (d + 119) (mo_fewest_orc) := px_orc_ok (by
  refine px_o1 (fun a h q e => by
    dsimp only at e
    split at e
    · exact mo_tell_ok (d := d + 118) e
    · cases e) ?_
  refine px_o1 (fun a h q e => by
    dsimp only at e
    split at e
    · exact mo_canGo_ok (d := d + 116) e
    · cases e) ?_
  refine px_o1 (fun a h q e => by
    dsimp only at e
    split at e
    · exact mo_leastRow_ok (d := d + 0) e
    · cases e) ?_
  exact px_o0)
set_option maxRecDepth 200000 in
theorem mo_fewest_51_ok {d : Nat} : ∀ (n : Nat) (x3 : Int32) (x4 : Int32) (h : pH) (q : Int32 × pH), mo_fewest_51 n x3 x4 h = some q → px_G (d + 119 + 1) (pX_RX11, prog_13_method_83_code, 5, (some .int)) 51 [some (.inr (.inl 51)), none, none, some (.inl x3), some (.inl x4)] [] h q := by
  intro n
  induction n with
  | zero =>
    intro x3 x4 h q e
    cases e
  | succ n ih =>
    intro x3 x4 h q e
    exact px_blk_ok (d := d + 119) (M := (pX_RX11, prog_13_method_83_code, 5, (some .int))) (C := mo_fewest_orc) (code := mo_fewest_code) (ld := [51]) (kl := [(51, fun ls st h => px_if (px_fit [61, 0, 0, 1, 1] ls && px_fits [] st) (mo_fewest_51 n (px_gi ls 3) (px_gi ls 4) h))]) (mo_fewest_orc_ok) pX_ok_RX11 mo_fewest_code_ok (px_k1 (px_ko (ts := [61, 0, 0, 1, 1]) (ss := []) fun ls st h q e => ih _ _ _ _ e) px_k0) 51 51 _ _ h q e
set_option maxRecDepth 200000 in
theorem mo_fewest_ok {d : Nat} {x1 : Int32} {x2 : Int32} {h : pH} {q : Int32 × pH} (e : mo_fewest x1 x2 h = some q) : px_Con (d + 120) 255 [.inr (.inl 51), .inl x1, .inl x2] h q :=
  px_con (X := pX_RX11) (b := prog_13_method_83_code) (nL := 5) (rt := (some .int)) rfl rfl (Nat.le_of_ble_eq_true rfl) rfl (px_blk_ok (d := d + 119) (M := (pX_RX11, prog_13_method_83_code, 5, (some .int))) (C := mo_fewest_orc) (code := mo_fewest_code) (ld := [51]) (kl := [(51, fun ls st h => px_if (px_fit [61, 0, 0, 1, 1] ls && px_fits [] st) (mo_fewest_51 px_F (px_gi ls 3) (px_gi ls 4) h))]) (mo_fewest_orc_ok) pX_ok_RX11 mo_fewest_code_ok (px_k1 (px_ko (ts := [61, 0, 0, 1, 1]) (ss := []) fun ls st h q e => mo_fewest_51_ok _ _ _ _ _ e) px_k0) 51 0 _ _ _ q e)
/-! WordsUnsaidModel.rows(II)I -/
noncomputable def mo_rows_36 : Nat → Int32 → pH → pR
  | 0, _, _ => none
  | n + 1, x3, h =>
    if (px_c 3) < x3 then
      let h1 := px_w h 51 13 (px_c 0)
      px_bind (mo_tell (h1 51 46) h1) fun _ h3 =>
      some (h3 51 45, h3)
    else
      px_bind (mo_goRows x3 (px_c 1) h) fun z4 h5 =>
      mo_rows_36 n (x3 + px_c 1) h5
noncomputable def mo_rows (x1 : Int32) (x2 : Int32) (h : pH) : pR :=
  let h1 := px_w h 51 14 (px_c 0)
  px_bind (mo_canGo x1 x2 h1) fun z2 h3 =>
  if z2 = 0 then
    some (px_c (-1), h3)
  else
    px_if (px_ok 0 52 x1) <|
    px_bind (mo_beginRows 52 ((px_c 1) <<< (x1 &&& 31)) (h3 52 x1.toNatClampNeg) x2 h3) fun _ h5 =>
    mo_rows_36 px_F (px_c 1) h5
def mo_rows_code : pCode := [(0, .aload_n 0, 1), (1, .iconst 0, 1), (2, .putfield 106, 3), (5, .aload_n 0, 1), (6, .iload_n 1, 1), (7, .iload_n 2, 1), (8, .invokevirtual 414, 3), (11, .ifCond .ne (5), 3), (14, .iconst (-1), 1), (15, .ireturn, 1), (16, .aload_n 0, 1), (17, .aload_n 0, 1), (18, .getfield 9, 3), (21, .iconst 1, 1), (22, .iload_n 1, 1), (23, .ishl, 1), (24, .aload_n 0, 1), (25, .getfield 9, 3), (28, .iload_n 1, 1), (29, .iaload, 1), (30, .iload_n 2, 1), (31, .invokevirtual 407, 3), (34, .iconst 1, 1), (35, .istore_n 3, 1), (36, .iload_n 3, 1), (37, .iconst 3, 1), (38, .if_icmp .gt (16), 3), (41, .aload_n 0, 1), (42, .iload_n 3, 1), (43, .iconst 1, 1), (44, .invokevirtual 411, 3), (47, .pop, 1), (48, .iinc 3 (1), 3), (51, .goto (-15), 3), (54, .aload_n 0, 1), (55, .iconst 0, 1), (56, .putfield 109, 3), (59, .aload_n 0, 1), (60, .aload_n 0, 1), (61, .getfield 383, 3), (64, .invokevirtual 312, 3), (67, .aload_n 0, 1), (68, .getfield 380, 3), (71, .ireturn, 1)]
set_option maxRecDepth 200000 in
theorem mo_rows_code_ok : px_code prog_13_method_84_code mo_rows_code = true := by decide +kernel
noncomputable def mo_rows_orc : pC := px_orc [(178, fun a h => match a with
    | [.inr (.inl 51), .inl v1] => mo_tell v1 h
    | _ => none), (249, fun a h => match a with
    | [.inr (.inl 51), .inl v1, .inl v2] => mo_goRows v1 v2 h
    | _ => none), (254, fun a h => match a with
    | [.inr (.inl 51), .inl v1, .inl v2] => mo_canGo v1 v2 h
    | _ => none), (248, fun a h => match a with
    | [.inr (.inl 51), .inr (.inl v1), .inl v2, .inl v3, .inl v4] => mo_beginRows v1 v2 v3 v4 h
    | _ => none)]
theorem mo_rows_orc_ok {d : Nat} : px_Or (d + 118) (mo_rows_orc) := px_orc_ok (by
  refine px_o1 (fun a h q e => by
    dsimp only at e
    split at e
    · exact mo_tell_ok (d := d + 117) e
    · cases e) ?_
  refine px_o1 (fun a h q e => by
    dsimp only at e
    split at e
    · exact mo_goRows_ok (d := d + 0) e
    · cases e) ?_
  refine px_o1 (fun a h q e => by
    dsimp only at e
    split at e
    · exact mo_canGo_ok (d := d + 115) e
    · cases e) ?_
  refine px_o1 (fun a h q e => by
    dsimp only at e
    split at e
    · exact mo_beginRows_ok (d := d + 116) e
    · cases e) ?_
  exact px_o0)
set_option maxRecDepth 200000 in
theorem mo_rows_36_ok {d : Nat} : ∀ (n : Nat) (x3 : Int32) (h : pH) (q : Int32 × pH), mo_rows_36 n x3 h = some q → px_G (d + 118 + 1) (pX_RX11, prog_13_method_84_code, 4, (some .int)) 36 [some (.inr (.inl 51)), none, none, some (.inl x3)] [] h q := by
  intro n
  induction n with
  | zero =>
    intro x3 h q e
    cases e
  | succ n ih =>
    intro x3 h q e
    exact px_blk_ok (d := d + 118) (M := (pX_RX11, prog_13_method_84_code, 4, (some .int))) (C := mo_rows_orc) (code := mo_rows_code) (ld := [36]) (kl := [(36, fun ls st h => px_if (px_fit [61, 0, 0, 1] ls && px_fits [] st) (mo_rows_36 n (px_gi ls 3) h))]) (mo_rows_orc_ok) pX_ok_RX11 mo_rows_code_ok (px_k1 (px_ko (ts := [61, 0, 0, 1]) (ss := []) fun ls st h q e => ih _ _ _ e) px_k0) 49 36 _ _ h q e
set_option maxRecDepth 200000 in
theorem mo_rows_ok {d : Nat} {x1 : Int32} {x2 : Int32} {h : pH} {q : Int32 × pH} (e : mo_rows x1 x2 h = some q) : px_Con (d + 119) 256 [.inr (.inl 51), .inl x1, .inl x2] h q :=
  px_con (X := pX_RX11) (b := prog_13_method_84_code) (nL := 4) (rt := (some .int)) rfl rfl (Nat.le_of_ble_eq_true rfl) rfl (px_blk_ok (d := d + 118) (M := (pX_RX11, prog_13_method_84_code, 4, (some .int))) (C := mo_rows_orc) (code := mo_rows_code) (ld := [36]) (kl := [(36, fun ls st h => px_if (px_fit [61, 0, 0, 1] ls && px_fits [] st) (mo_rows_36 px_F (px_gi ls 3) h))]) (mo_rows_orc_ok) pX_ok_RX11 mo_rows_code_ok (px_k1 (px_ko (ts := [61, 0, 0, 1]) (ss := []) fun ls st h q e => mo_rows_36_ok _ _ _ _ e) px_k0) 49 0 _ _ _ q e)
/-! WordsUnsaidModel.isFree(II)Z -/
noncomputable def mo_isFree_38 (h : pH) : pR :=
  px_bz (px_c 0) h
noncomputable def mo_isFree_42 : Nat → Int32 → Int32 → pH → pR
  | 0, _, _, _ => none
  | n + 1, x2, x3, h =>
    if (h 51 52) ≤ x3 then
      px_bz (px_c 1) h
    else
      px_if (px_ok 0 73 x3) <|
      if (h 73 x3.toNatClampNeg) = x2 then
        px_bz (px_c 0) h
      else
        mo_isFree_42 n x2 (x3 + px_c 1) h
noncomputable def mo_isFree (x1 : Int32) (x2 : Int32) (h : pH) : pR :=
  px_if (px_ok 0 52 ((px_c 32) + x2)) <|
  if (h 52 ((px_c 32) + x2).toNatClampNeg) = x1 then
    px_if (px_ok 0 52 ((px_c 22) + x2)) <|
    if (h 52 ((px_c 22) + x2).toNatClampNeg) = (px_c 1) then
      mo_isFree_38 h
    else
      px_if (px_ok 0 52 ((px_c 12) + x2)) <|
      if (h 52 ((px_c 12) + x2).toNatClampNeg) = 0 then
        mo_isFree_38 h
      else
        mo_isFree_42 px_F x2 (px_c 0) h
  else
    mo_isFree_38 h
def mo_isFree_code : pCode := [(0, .aload_n 0, 1), (1, .getfield 9, 3), (4, .bipush (32), 2), (6, .iload_n 2, 1), (7, .iadd, 1), (8, .iaload, 1), (9, .iload_n 1, 1), (10, .if_icmp .ne (28), 3), (13, .aload_n 0, 1), (14, .getfield 9, 3), (17, .bipush (22), 2), (19, .iload_n 2, 1), (20, .iadd, 1), (21, .iaload, 1), (22, .iconst 1, 1), (23, .if_icmp .eq (15), 3), (26, .aload_n 0, 1), (27, .getfield 9, 3), (30, .bipush (12), 2), (32, .iload_n 2, 1), (33, .iadd, 1), (34, .iaload, 1), (35, .ifCond .ne (5), 3), (38, .iconst 0, 1), (39, .ireturn, 1), (40, .iconst 0, 1), (41, .istore_n 3, 1), (42, .iload_n 3, 1), (43, .aload_n 0, 1), (44, .getfield 420, 3), (47, .if_icmp .ge (21), 3), (50, .aload_n 0, 1), (51, .getfield 78, 3), (54, .iload_n 3, 1), (55, .iaload, 1), (56, .iload_n 2, 1), (57, .if_icmp .ne (5), 3), (60, .iconst 0, 1), (61, .ireturn, 1), (62, .iinc 3 (1), 3), (65, .goto (-23), 3), (68, .iconst 1, 1), (69, .ireturn, 1)]
set_option maxRecDepth 200000 in
theorem mo_isFree_code_ok : px_code prog_13_method_86_code mo_isFree_code = true := by decide +kernel
noncomputable def mo_isFree_orc : pC := px_orc []
theorem mo_isFree_orc_ok {d : Nat} : px_Or (d + 0) (mo_isFree_orc) := px_orc_ok (by
  exact px_o0)
set_option maxRecDepth 200000 in
theorem mo_isFree_38_ok {d : Nat} : ∀ (h : pH) (q : Int32 × pH), mo_isFree_38 h = some q → px_G (d + 0 + 1) (pX_RX11, prog_13_method_86_code, 4, (some .boolean)) 38 [none, none, none, none] [] h q := by
  intro h q e
  exact px_blk_ok (d := d + 0) (M := (pX_RX11, prog_13_method_86_code, 4, (some .boolean))) (C := mo_isFree_orc) (code := mo_isFree_code) (ld := []) (kl := []) (mo_isFree_orc_ok) pX_ok_RX11 mo_isFree_code_ok (px_k0) 48 38 _ _ h q e
set_option maxRecDepth 200000 in
theorem mo_isFree_42_ok {d : Nat} : ∀ (n : Nat) (x2 : Int32) (x3 : Int32) (h : pH) (q : Int32 × pH), mo_isFree_42 n x2 x3 h = some q → px_G (d + 0 + 1) (pX_RX11, prog_13_method_86_code, 4, (some .boolean)) 42 [some (.inr (.inl 51)), none, some (.inl x2), some (.inl x3)] [] h q := by
  intro n
  induction n with
  | zero =>
    intro x2 x3 h q e
    cases e
  | succ n ih =>
    intro x2 x3 h q e
    exact px_blk_ok (d := d + 0) (M := (pX_RX11, prog_13_method_86_code, 4, (some .boolean))) (C := mo_isFree_orc) (code := mo_isFree_code) (ld := [42]) (kl := [(42, fun ls st h => px_if (px_fit [61, 0, 1, 1] ls && px_fits [] st) (mo_isFree_42 n (px_gi ls 2) (px_gi ls 3) h))]) (mo_isFree_orc_ok) pX_ok_RX11 mo_isFree_code_ok (px_k1 (px_ko (ts := [61, 0, 1, 1]) (ss := []) fun ls st h q e => ih _ _ _ _ e) px_k0) 48 42 _ _ h q e
set_option maxRecDepth 200000 in
theorem mo_isFree_ok {d : Nat} {x1 : Int32} {x2 : Int32} {h : pH} {q : Int32 × pH} (e : mo_isFree x1 x2 h = some q) : px_Con (d + 1) 258 [.inr (.inl 51), .inl x1, .inl x2] h q :=
  px_con (X := pX_RX11) (b := prog_13_method_86_code) (nL := 4) (rt := (some .boolean)) rfl rfl (Nat.le_of_ble_eq_true rfl) rfl (px_blk_ok (d := d + 0) (M := (pX_RX11, prog_13_method_86_code, 4, (some .boolean))) (C := mo_isFree_orc) (code := mo_isFree_code) (ld := [42, 38]) (kl := [(42, fun ls st h => px_if (px_fit [61, 0, 1, 1] ls && px_fits [] st) (mo_isFree_42 px_F (px_gi ls 2) (px_gi ls 3) h)), (38, fun ls st h => px_if (px_fit [0, 0, 0, 0] ls && px_fits [] st) (mo_isFree_38 h))]) (mo_isFree_orc_ok) pX_ok_RX11 mo_isFree_code_ok (px_k1 (px_ko (ts := [61, 0, 1, 1]) (ss := []) fun ls st h q e => mo_isFree_42_ok _ _ _ _ _ e) (px_k1 (px_ko (ts := [0, 0, 0, 0]) (ss := []) fun ls st h q e => mo_isFree_38_ok _ _ e) px_k0)) 48 0 _ _ _ q e)
noncomputable def mo_goBack_94 (rc : pC) : Nat → Int32 → Int32 → Int32 → Int32 → Int32 → pH → pR
  | 0, _, _, _, _, _, _ => none
  | n + 1, x1, x2, x3, x4, x5, h =>
    if x3 ≤ x5 then
      px_bind (mo_wordsIn 52 h) fun z1 h2 =>
      px_if (px_ok 0 52 x1) <|
      px_bind (mo_distance (h2 52 x1.toNatClampNeg) x2 h2) fun z3 h4 =>
      if z3 ≤ z1 then
        px_bind (mo_lay 52 74 (px_c 0) h4) fun _ h6 =>
        px_if (px_ok 0 52 x1) <|
        px_bind (mo_goes 74 ((px_c 1) <<< (x1 &&& 31)) (h6 52 x1.toNatClampNeg) x2 h6) fun z7 h8 =>
        if z7 = 0 then
          px_bz (px_c 0) h8
        else
          px_if (px_ok 0 52 x1) <|
          px_bind (mo_beginRows 74 ((px_c 1) <<< (x1 &&& 31)) x2 (h8 52 x1.toNatClampNeg) h8) fun _ h10 =>
          px_bind (mo_goRows x4 (px_c 0) h10) fun z11 h12 =>
          px_bz z11 h12
      else
        px_bz (px_c 0) h4
    else
      px_if (px_ok 0 73 x5) <|
      px_if (px_ok 0 65 x5) <|
      let h13 := px_w h 65 x5.toNatClampNeg (h 73 x5.toNatClampNeg)
      mo_goBack_94 rc n x1 x2 x3 x4 (x5 + px_c 1) h13
noncomputable def mo_goBack_78 (rc : pC) (r11 : Int32 → Int32 → Int32 → Int32 → Int32 → pH → pR) (x1 : Int32) (x2 : Int32) (x3 : Int32) (x4 : Int32) (x5 : Int32) (h : pH) : pR :=
  r11 x1 x2 x3 x4 (x5 + px_c 1) h
noncomputable def mo_goBack_11 (rc : pC) : Nat → Int32 → Int32 → Int32 → Int32 → Int32 → pH → pR
  | 0, _, _, _, _, _, _ => none
  | n + 1, x1, x2, x3, x4, x5, h =>
    if (h 51 6) ≤ x5 then
      px_bz (px_c 0) h
    else
      px_bind (mo_isFree x1 x5 h) fun z1 h2 =>
      if z1 = 0 then
        mo_goBack_78 rc (mo_goBack_11 rc n) x1 x2 x3 x4 x5 h2
      else
        px_if (px_ok 0 73 (h2 51 52)) <|
        let h3 := px_w h2 73 (h2 51 52).toNatClampNeg x5
        let h4 := px_w h3 51 52 ((h3 51 52) + (px_c 1))
        px_bind (rc 257 [.inr (.inl 51), .inl x1, .inl x2, .inl x3, .inl x4] h4) fun z5 h6 =>
        if z5 = 0 then
          let h7 := px_w h6 51 52 ((h6 51 52) - (px_c 1))
          mo_goBack_78 rc (mo_goBack_11 rc n) x1 x2 x3 x4 x5 h7
        else
          px_bz (px_c 1) h6
noncomputable def mo_goBack (rc : pC) (x1 : Int32) (x2 : Int32) (x3 : Int32) (x4 : Int32) (h : pH) : pR :=
  if x3 ≤ (h 51 52) then
    let h1 := px_w h 51 30 x3
    mo_goBack_94 rc px_F x1 x2 x3 x4 (px_c 0) h1
  else
    mo_goBack_11 rc px_F x1 x2 x3 x4 (px_c 0) h
def mo_goBack_code : pCode := [(0, .aload_n 0, 1), (1, .getfield 420, 3), (4, .iload_n 3, 1), (5, .if_icmp .ge (81), 3), (8, .iconst 0, 1), (9, .istore 5, 2), (11, .iload 5, 2), (13, .aload_n 0, 1), (14, .getfield 119, 3), (17, .if_icmp .ge (67), 3), (20, .aload_n 0, 1), (21, .iload_n 1, 1), (22, .iload 5, 2), (24, .invokevirtual 423, 3), (27, .ifCond .ne (6), 3), (30, .goto (48), 3), (33, .aload_n 0, 1), (34, .getfield 78, 3), (37, .aload_n 0, 1), (38, .getfield 420, 3), (41, .iload 5, 2), (43, .iastore, 1), (44, .aload_n 0, 1), (45, .dup, 1), (46, .getfield 420, 3), (49, .iconst 1, 1), (50, .iadd, 1), (51, .putfield 420, 3), (54, .aload_n 0, 1), (55, .iload_n 1, 1), (56, .iload_n 2, 1), (57, .iload_n 3, 1), (58, .iload 4, 2), (60, .invokevirtual 426, 3), (63, .ifCond .eq (5), 3), (66, .iconst 1, 1), (67, .ireturn, 1), (68, .aload_n 0, 1), (69, .dup, 1), (70, .getfield 420, 3), (73, .iconst 1, 1), (74, .isub, 1), (75, .putfield 420, 3), (78, .iinc 5 (1), 3), (81, .goto (-70), 3), (84, .iconst 0, 1), (85, .ireturn, 1), (86, .aload_n 0, 1), (87, .iload_n 3, 1), (88, .putfield 292, 3), (91, .iconst 0, 1), (92, .istore 5, 2), (94, .iload 5, 2), (96, .iload_n 3, 1), (97, .if_icmp .ge (23), 3), (100, .aload_n 0, 1), (101, .getfield 54, 3), (104, .iload 5, 2), (106, .aload_n 0, 1), (107, .getfield 78, 3), (110, .iload 5, 2), (112, .iaload, 1), (113, .iastore, 1), (114, .iinc 5 (1), 3), (117, .goto (-23), 3), (120, .aload_n 0, 1), (121, .aload_n 0, 1), (122, .getfield 9, 3), (125, .invokevirtual 309, 3), (128, .aload_n 0, 1), (129, .aload_n 0, 1), (130, .getfield 9, 3), (133, .iload_n 1, 1), (134, .iaload, 1), (135, .iload_n 2, 1), (136, .invokevirtual 268, 3), (139, .if_icmp .ge (5), 3), (142, .iconst 0, 1), (143, .ireturn, 1), (144, .aload_n 0, 1), (145, .getfield 9, 3), (148, .aload_n 0, 1), (149, .getfield 81, 3), (152, .iconst 0, 1), (153, .invokestatic 295, 3), (156, .aload_n 0, 1), (157, .aload_n 0, 1), (158, .getfield 81, 3), (161, .iconst 1, 1), (162, .iload_n 1, 1), (163, .ishl, 1), (164, .aload_n 0, 1), (165, .getfield 9, 3), (168, .iload_n 1, 1), (169, .iaload, 1), (170, .iload_n 2, 1), (171, .invokevirtual 326, 3), (174, .ifCond .ne (5), 3), (177, .iconst 0, 1), (178, .ireturn, 1), (179, .aload_n 0, 1), (180, .aload_n 0, 1), (181, .getfield 81, 3), (184, .iconst 1, 1), (185, .iload_n 1, 1), (186, .ishl, 1), (187, .iload_n 2, 1), (188, .aload_n 0, 1), (189, .getfield 9, 3), (192, .iload_n 1, 1), (193, .iaload, 1), (194, .invokevirtual 407, 3), (197, .aload_n 0, 1), (198, .iload 4, 2), (200, .iconst 0, 1), (201, .invokevirtual 411, 3), (204, .ireturn, 1)]
set_option maxRecDepth 200000 in
theorem mo_goBack_code_ok : px_code prog_13_method_85_code mo_goBack_code = true := by decide +kernel
noncomputable def mo_goBack_orc (rc : pC) : pC := fun id a h => if id ∈ ([257] : List Nat) then rc id a h else px_orc [(222, fun a h => match a with
    | [.inr (.inl 51), .inr (.inl v1)] => mo_wordsIn v1 h
    | _ => none), (218, fun a h => match a with
    | [.inr (.inl 51), .inl v1, .inl v2] => mo_distance v1 v2 h
    | _ => none), (223, fun a h => match a with
    | [.inr (.inl v0), .inr (.inl v1), .inl v2] => mo_lay v0 v1 v2 h
    | _ => none), (219, fun a h => match a with
    | [.inr (.inl 51), .inr (.inl v1), .inl v2, .inl v3, .inl v4] => mo_goes v1 v2 v3 v4 h
    | _ => none), (248, fun a h => match a with
    | [.inr (.inl 51), .inr (.inl v1), .inl v2, .inl v3, .inl v4] => mo_beginRows v1 v2 v3 v4 h
    | _ => none), (249, fun a h => match a with
    | [.inr (.inl 51), .inl v1, .inl v2] => mo_goRows v1 v2 h
    | _ => none), (258, fun a h => match a with
    | [.inr (.inl 51), .inl v1, .inl v2] => mo_isFree v1 v2 h
    | _ => none)] id a h
theorem mo_goBack_orc_ok {d : Nat} {rc : pC} (hrc : px_Or (d + 118) rc) : px_Or (d + 118) (mo_goBack_orc rc) := by
  intro id a h q e
  unfold mo_goBack_orc at e
  split at e
  · exact hrc id a h q e
  · revert e
    revert q
    revert h
    revert a
    revert id
    show ∀ id, ¬ _ → ∀ a h q, _ → _
    intro id _
    revert id
    exact px_orc_ok (by
      refine px_o1 (fun a h q e => by
        dsimp only at e
        split at e
        · exact mo_wordsIn_ok (d := d + 117) e
        · cases e) ?_
      refine px_o1 (fun a h q e => by
        dsimp only at e
        split at e
        · exact mo_distance_ok (d := d + 116) e
        · cases e) ?_
      refine px_o1 (fun a h q e => by
        dsimp only at e
        split at e
        · exact mo_lay_ok (d := d + 117) e
        · cases e) ?_
      refine px_o1 (fun a h q e => by
        dsimp only at e
        split at e
        · exact mo_goes_ok (d := d + 12) e
        · cases e) ?_
      refine px_o1 (fun a h q e => by
        dsimp only at e
        split at e
        · exact mo_beginRows_ok (d := d + 116) e
        · cases e) ?_
      refine px_o1 (fun a h q e => by
        dsimp only at e
        split at e
        · exact mo_goRows_ok (d := d + 0) e
        · cases e) ?_
      refine px_o1 (fun a h q e => by
        dsimp only at e
        split at e
        · exact mo_isFree_ok (d := d + 117) e
        · cases e) ?_
      exact px_o0)
set_option maxRecDepth 200000 in
theorem mo_goBack_94_ok {d : Nat} {rc : pC} (hrc : px_Or (d + 118) rc) : ∀ (n : Nat) (x1 : Int32) (x2 : Int32) (x3 : Int32) (x4 : Int32) (x5 : Int32) (h : pH) (q : Int32 × pH), mo_goBack_94 rc n x1 x2 x3 x4 x5 h = some q → px_G (d + 118 + 1) (pX_RX11, prog_13_method_85_code, 6, (some .boolean)) 94 [some (.inr (.inl 51)), some (.inl x1), some (.inl x2), some (.inl x3), some (.inl x4), some (.inl x5)] [] h q := by
  intro n
  induction n with
  | zero =>
    intro x1 x2 x3 x4 x5 h q e
    cases e
  | succ n ih =>
    intro x1 x2 x3 x4 x5 h q e
    exact px_blk_ok (d := d + 118) (M := (pX_RX11, prog_13_method_85_code, 6, (some .boolean))) (C := mo_goBack_orc rc) (code := mo_goBack_code) (ld := [94]) (kl := [(94, fun ls st h => px_if (px_fit [61, 1, 1, 1, 1, 1] ls && px_fits [] st) (mo_goBack_94 rc n (px_gi ls 1) (px_gi ls 2) (px_gi ls 3) (px_gi ls 4) (px_gi ls 5) h))]) (mo_goBack_orc_ok hrc) pX_ok_RX11 mo_goBack_code_ok (px_k1 (px_ko (ts := [61, 1, 1, 1, 1, 1]) (ss := []) fun ls st h q e => ih _ _ _ _ _ _ _ e) px_k0) 122 94 _ _ h q e
set_option maxRecDepth 200000 in
theorem mo_goBack_78_ok {d : Nat} {rc : pC} (hrc : px_Or (d + 118) rc) {r11 : Int32 → Int32 → Int32 → Int32 → Int32 → pH → pR} (hr11 : ∀ (x1 : Int32) (x2 : Int32) (x3 : Int32) (x4 : Int32) (x5 : Int32) (h : pH) (q : Int32 × pH), r11 x1 x2 x3 x4 x5 h = some q → px_G (d + 118 + 1) (pX_RX11, prog_13_method_85_code, 6, (some .boolean)) 11 [some (.inr (.inl 51)), some (.inl x1), some (.inl x2), some (.inl x3), some (.inl x4), some (.inl x5)] [] h q) : ∀ (x1 : Int32) (x2 : Int32) (x3 : Int32) (x4 : Int32) (x5 : Int32) (h : pH) (q : Int32 × pH), mo_goBack_78 rc r11 x1 x2 x3 x4 x5 h = some q → px_G (d + 118 + 1) (pX_RX11, prog_13_method_85_code, 6, (some .boolean)) 78 [some (.inr (.inl 51)), some (.inl x1), some (.inl x2), some (.inl x3), some (.inl x4), some (.inl x5)] [] h q := by
  intro x1 x2 x3 x4 x5 h q e
  exact px_blk_ok (d := d + 118) (M := (pX_RX11, prog_13_method_85_code, 6, (some .boolean))) (C := mo_goBack_orc rc) (code := mo_goBack_code) (ld := [11]) (kl := [(11, fun ls st h => px_if (px_fit [61, 1, 1, 1, 1, 1] ls && px_fits [] st) (r11 (px_gi ls 1) (px_gi ls 2) (px_gi ls 3) (px_gi ls 4) (px_gi ls 5) h))]) (mo_goBack_orc_ok hrc) pX_ok_RX11 mo_goBack_code_ok (px_k1 (px_ko (ts := [61, 1, 1, 1, 1, 1]) (ss := []) fun ls st h q e => hr11 _ _ _ _ _ _ _ e) px_k0) 122 78 _ _ h q e
set_option maxRecDepth 200000 in
theorem mo_goBack_11_ok {d : Nat} {rc : pC} (hrc : px_Or (d + 118) rc) : ∀ (n : Nat) (x1 : Int32) (x2 : Int32) (x3 : Int32) (x4 : Int32) (x5 : Int32) (h : pH) (q : Int32 × pH), mo_goBack_11 rc n x1 x2 x3 x4 x5 h = some q → px_G (d + 118 + 1) (pX_RX11, prog_13_method_85_code, 6, (some .boolean)) 11 [some (.inr (.inl 51)), some (.inl x1), some (.inl x2), some (.inl x3), some (.inl x4), some (.inl x5)] [] h q := by
  intro n
  induction n with
  | zero =>
    intro x1 x2 x3 x4 x5 h q e
    cases e
  | succ n ih =>
    intro x1 x2 x3 x4 x5 h q e
    exact px_blk_ok (d := d + 118) (M := (pX_RX11, prog_13_method_85_code, 6, (some .boolean))) (C := mo_goBack_orc rc) (code := mo_goBack_code) (ld := [78]) (kl := [(78, fun ls st h => px_if (px_fit [61, 1, 1, 1, 1, 1] ls && px_fits [] st) (mo_goBack_78 rc (mo_goBack_11 rc n) (px_gi ls 1) (px_gi ls 2) (px_gi ls 3) (px_gi ls 4) (px_gi ls 5) h))]) (mo_goBack_orc_ok hrc) pX_ok_RX11 mo_goBack_code_ok (px_k1 (px_ko (ts := [61, 1, 1, 1, 1, 1]) (ss := []) fun ls st h q e => mo_goBack_78_ok hrc ih _ _ _ _ _ _ _ e) px_k0) 122 11 _ _ h q e
set_option maxRecDepth 200000 in
theorem mo_goBack_ok {d : Nat} {rc : pC} (hrc : px_Or (d + 118) rc) {x1 : Int32} {x2 : Int32} {x3 : Int32} {x4 : Int32} {h : pH} {q : Int32 × pH} (e : mo_goBack rc x1 x2 x3 x4 h = some q) : px_Con (d + 119) 257 [.inr (.inl 51), .inl x1, .inl x2, .inl x3, .inl x4] h q :=
  px_con (X := pX_RX11) (b := prog_13_method_85_code) (nL := 6) (rt := (some .boolean)) rfl rfl (Nat.le_of_ble_eq_true rfl) rfl (px_blk_ok (d := d + 118) (M := (pX_RX11, prog_13_method_85_code, 6, (some .boolean))) (C := mo_goBack_orc rc) (code := mo_goBack_code) (ld := [11, 94]) (kl := [(11, fun ls st h => px_if (px_fit [61, 1, 1, 1, 1, 1] ls && px_fits [] st) (mo_goBack_11 rc px_F (px_gi ls 1) (px_gi ls 2) (px_gi ls 3) (px_gi ls 4) (px_gi ls 5) h)), (94, fun ls st h => px_if (px_fit [61, 1, 1, 1, 1, 1] ls && px_fits [] st) (mo_goBack_94 rc px_F (px_gi ls 1) (px_gi ls 2) (px_gi ls 3) (px_gi ls 4) (px_gi ls 5) h))]) (mo_goBack_orc_ok hrc) pX_ok_RX11 mo_goBack_code_ok (px_k1 (px_ko (ts := [61, 1, 1, 1, 1, 1]) (ss := []) fun ls st h q e => mo_goBack_11_ok hrc _ _ _ _ _ _ _ _ e) (px_k1 (px_ko (ts := [61, 1, 1, 1, 1, 1]) (ss := []) fun ls st h q e => mo_goBack_94_ok hrc _ _ _ _ _ _ _ _ e) px_k0)) 122 0 _ _ _ q e)
noncomputable def mo_goBackG : Nat → pC
  | 0 => fun _ _ _ => none
  | n + 1 => px_orc [(257, fun a h => match a with
      | [.inr (.inl 51), .inl v1, .inl v2, .inl v3, .inl v4] => mo_goBack (mo_goBackG n) v1 v2 v3 v4 h
      | _ => none)]
theorem mo_goBackG_ok {d : Nat} : ∀ n : Nat, px_Or (d + n + 118) (mo_goBackG n) := by
  intro n
  induction n with
  | zero => intro id a h q e; cases e
  | succ n ih =>
    show px_Or (d + n + 118 + 1) _
    refine px_orc_ok ?_
    refine px_o1 (fun a h q e => by
      dsimp only at e
      split at e
      · exact mo_goBack_ok (d := d + n) ih e
      · cases e) ?_
    exact px_o0
noncomputable def mo_goBackT (x1 : Int32) (x2 : Int32) (x3 : Int32) (x4 : Int32) (h : pH) : pR := mo_goBackG 10 257 [.inr (.inl 51), .inl x1, .inl x2, .inl x3, .inl x4] h
theorem mo_goBackT_ok {d : Nat} {x1 : Int32} {x2 : Int32} {x3 : Int32} {x4 : Int32} {h : pH} {q : Int32 × pH} (e : mo_goBackT x1 x2 x3 x4 h = some q) : px_Con (d + 128) 257 [.inr (.inl 51), .inl x1, .inl x2, .inl x3, .inl x4] h q := mo_goBackG_ok (d := d) 10 257 _ h q e
/-! WordsUnsaidModel.back(II)I -/
noncomputable def mo_back_24 (h : pH) : pR :=
  some (px_c (-1), h)
noncomputable def mo_back_122 : Nat → Int32 → Int32 → Int32 → pH → pR
  | 0, _, _, _, _ => none
  | n + 1, x3, x4, x5, h =>
    if (x3 - x4) ≤ x5 then
      some (x3, h)
    else
      px_if (px_ok 0 65 x5) <|
      px_bind (mo_tell (h 65 x5.toNatClampNeg) h) fun _ h2 =>
      mo_back_122 n x3 x4 (x5 + px_c 1) h2
noncomputable def mo_back_95 : Nat → Int32 → Int32 → Int32 → pH → pR
  | 0, _, _, _, _ => none
  | n + 1, x3, x4, x5, h =>
    if x4 ≤ x5 then
      mo_back_122 px_F x3 x4 (px_c 0) h
    else
      px_if (px_ok 0 73 x5) <|
      px_bind (mo_tell (h 73 x5.toNatClampNeg) h) fun _ h2 =>
      mo_back_95 n x3 x4 (x5 + px_c 1) h2
noncomputable def mo_back_150 (r28 : Int32 → Int32 → Int32 → pH → pR) (r37 : Int32 → Int32 → Int32 → Int32 → pH → pR) (x1 : Int32) (x2 : Int32) (x3 : Int32) (x4 : Int32) (h : pH) : pR :=
  r37 x1 x2 x3 (x4 + px_c 1) h
noncomputable def mo_back_37 (r28 : Int32 → Int32 → Int32 → pH → pR) : Nat → Int32 → Int32 → Int32 → Int32 → pH → pR
  | 0, _, _, _, _, _ => none
  | n + 1, x1, x2, x3, x4, h =>
    if (px_c 3) < x4 then
      r28 x1 x2 (x3 + px_c 1) h
    else
      px_bind (mo_in (x3 - x4) (px_c 1) (px_c 3) h) fun z1 h2 =>
      if z1 = 0 then
        mo_back_150 r28 (mo_back_37 r28 n) x1 x2 x3 x4 h2
      else
        let h3 := px_w h2 51 52 (px_c 0)
        px_bind (mo_goBackT x1 x2 x4 (x3 - x4) h3) fun z4 h5 =>
        if z4 = 0 then
          mo_back_150 r28 (mo_back_37 r28 n) x1 x2 x3 x4 h5
        else
          let h6 := px_w h5 51 13 (px_c 0)
          px_bind (mo_tell x4 h6) fun _ h8 =>
          mo_back_95 px_F x3 x4 (px_c 0) h8
noncomputable def mo_back_28 : Nat → Int32 → Int32 → Int32 → pH → pR
  | 0, _, _, _, _ => none
  | n + 1, x1, x2, x3, h =>
    if (px_c 6) < x3 then
      some (px_c (-2), h)
    else
      mo_back_37 (mo_back_28 n) px_F x1 x2 x3 (px_c 1) h
noncomputable def mo_back (x1 : Int32) (x2 : Int32) (h : pH) : pR :=
  let h1 := px_w h 51 14 (px_c 0)
  px_bind (mo_canGo x1 x2 h1) fun z2 h3 =>
  if z2 = 0 then
    mo_back_24 h3
  else
    px_if (px_ok 0 52 x1) <|
    if (h3 52 x1.toNatClampNeg) ≤ (px_c 1) then
      mo_back_28 px_F x1 x2 (px_c 2) h3
    else
      mo_back_24 h3
def mo_back_code : pCode := [(0, .aload_n 0, 1), (1, .iconst 0, 1), (2, .putfield 106, 3), (5, .aload_n 0, 1), (6, .iload_n 1, 1), (7, .iload_n 2, 1), (8, .invokevirtual 414, 3), (11, .ifCond .eq (13), 3), (14, .aload_n 0, 1), (15, .getfield 9, 3), (18, .iload_n 1, 1), (19, .iaload, 1), (20, .iconst 1, 1), (21, .if_icmp .le (5), 3), (24, .iconst (-1), 1), (25, .ireturn, 1), (26, .iconst 2, 1), (27, .istore_n 3, 1), (28, .iload_n 3, 1), (29, .bipush (6), 2), (31, .if_icmp .gt (131), 3), (34, .iconst 1, 1), (35, .istore 4, 2), (37, .iload 4, 2), (39, .iconst 3, 1), (40, .if_icmp .gt (116), 3), (43, .iload_n 3, 1), (44, .iload 4, 2), (46, .isub, 1), (47, .iconst 1, 1), (48, .iconst 3, 1), (49, .invokestatic 115, 3), (52, .ifCond .ne (6), 3), (55, .goto (95), 3), (58, .aload_n 0, 1), (59, .iconst 0, 1), (60, .putfield 420, 3), (63, .aload_n 0, 1), (64, .iload_n 1, 1), (65, .iload_n 2, 1), (66, .iload 4, 2), (68, .iload_n 3, 1), (69, .iload 4, 2), (71, .isub, 1), (72, .invokevirtual 426, 3), (75, .ifCond .ne (6), 3), (78, .goto (72), 3), (81, .aload_n 0, 1), (82, .iconst 0, 1), (83, .putfield 109, 3), (86, .aload_n 0, 1), (87, .iload 4, 2), (89, .invokevirtual 312, 3), (92, .iconst 0, 1), (93, .istore 5, 2), (95, .iload 5, 2), (97, .iload 4, 2), (99, .if_icmp .ge (20), 3), (102, .aload_n 0, 1), (103, .aload_n 0, 1), (104, .getfield 78, 3), (107, .iload 5, 2), (109, .iaload, 1), (110, .invokevirtual 312, 3), (113, .iinc 5 (1), 3), (116, .goto (-21), 3), (119, .iconst 0, 1), (120, .istore 5, 2), (122, .iload 5, 2), (124, .iload_n 3, 1), (125, .iload 4, 2), (127, .isub, 1), (128, .if_icmp .ge (20), 3), (131, .aload_n 0, 1), (132, .aload_n 0, 1), (133, .getfield 54, 3), (136, .iload 5, 2), (138, .iaload, 1), (139, .invokevirtual 312, 3), (142, .iinc 5 (1), 3), (145, .goto (-23), 3), (148, .iload_n 3, 1), (149, .ireturn, 1), (150, .iinc 4 (1), 3), (153, .goto (-116), 3), (156, .iinc 3 (1), 3), (159, .goto (-131), 3), (162, .bipush (-2), 2), (164, .ireturn, 1)]
set_option maxRecDepth 200000 in
theorem mo_back_code_ok : px_code prog_13_method_87_code mo_back_code = true := by decide +kernel
noncomputable def mo_back_orc : pC := px_orc [(178, fun a h => match a with
    | [.inr (.inl 51), .inl v1] => mo_tell v1 h
    | _ => none), (175, fun a h => match a with
    | [.inl v0, .inl v1, .inl v2] => mo_in v0 v1 v2 h
    | _ => none), (257, fun a h => match a with
    | [.inr (.inl 51), .inl v1, .inl v2, .inl v3, .inl v4] => mo_goBackT v1 v2 v3 v4 h
    | _ => none), (254, fun a h => match a with
    | [.inr (.inl 51), .inl v1, .inl v2] => mo_canGo v1 v2 h
    | _ => none)]
theorem mo_back_orc_ok {d : Nat} : px_Or (d + 128) (mo_back_orc) := px_orc_ok (by
  refine px_o1 (fun a h q e => by
    dsimp only at e
    split at e
    · exact mo_tell_ok (d := d + 127) e
    · cases e) ?_
  refine px_o1 (fun a h q e => by
    dsimp only at e
    split at e
    · exact mo_in_ok (d := d + 127) e
    · cases e) ?_
  refine px_o1 (fun a h q e => by
    dsimp only at e
    split at e
    · exact mo_goBackT_ok (d := d + 0) e
    · cases e) ?_
  refine px_o1 (fun a h q e => by
    dsimp only at e
    split at e
    · exact mo_canGo_ok (d := d + 125) e
    · cases e) ?_
  exact px_o0)
set_option maxRecDepth 200000 in
theorem mo_back_24_ok {d : Nat} : ∀ (h : pH) (q : Int32 × pH), mo_back_24 h = some q → px_G (d + 128 + 1) (pX_RX11, prog_13_method_87_code, 6, (some .int)) 24 [none, none, none, none, none, none] [] h q := by
  intro h q e
  exact px_blk_ok (d := d + 128) (M := (pX_RX11, prog_13_method_87_code, 6, (some .int))) (C := mo_back_orc) (code := mo_back_code) (ld := []) (kl := []) (mo_back_orc_ok) pX_ok_RX11 mo_back_code_ok (px_k0) 94 24 _ _ h q e
set_option maxRecDepth 200000 in
theorem mo_back_122_ok {d : Nat} : ∀ (n : Nat) (x3 : Int32) (x4 : Int32) (x5 : Int32) (h : pH) (q : Int32 × pH), mo_back_122 n x3 x4 x5 h = some q → px_G (d + 128 + 1) (pX_RX11, prog_13_method_87_code, 6, (some .int)) 122 [some (.inr (.inl 51)), none, none, some (.inl x3), some (.inl x4), some (.inl x5)] [] h q := by
  intro n
  induction n with
  | zero =>
    intro x3 x4 x5 h q e
    cases e
  | succ n ih =>
    intro x3 x4 x5 h q e
    exact px_blk_ok (d := d + 128) (M := (pX_RX11, prog_13_method_87_code, 6, (some .int))) (C := mo_back_orc) (code := mo_back_code) (ld := [122]) (kl := [(122, fun ls st h => px_if (px_fit [61, 0, 0, 1, 1, 1] ls && px_fits [] st) (mo_back_122 n (px_gi ls 3) (px_gi ls 4) (px_gi ls 5) h))]) (mo_back_orc_ok) pX_ok_RX11 mo_back_code_ok (px_k1 (px_ko (ts := [61, 0, 0, 1, 1, 1]) (ss := []) fun ls st h q e => ih _ _ _ _ _ e) px_k0) 94 122 _ _ h q e
set_option maxRecDepth 200000 in
theorem mo_back_95_ok {d : Nat} : ∀ (n : Nat) (x3 : Int32) (x4 : Int32) (x5 : Int32) (h : pH) (q : Int32 × pH), mo_back_95 n x3 x4 x5 h = some q → px_G (d + 128 + 1) (pX_RX11, prog_13_method_87_code, 6, (some .int)) 95 [some (.inr (.inl 51)), none, none, some (.inl x3), some (.inl x4), some (.inl x5)] [] h q := by
  intro n
  induction n with
  | zero =>
    intro x3 x4 x5 h q e
    cases e
  | succ n ih =>
    intro x3 x4 x5 h q e
    exact px_blk_ok (d := d + 128) (M := (pX_RX11, prog_13_method_87_code, 6, (some .int))) (C := mo_back_orc) (code := mo_back_code) (ld := [95, 122]) (kl := [(95, fun ls st h => px_if (px_fit [61, 0, 0, 1, 1, 1] ls && px_fits [] st) (mo_back_95 n (px_gi ls 3) (px_gi ls 4) (px_gi ls 5) h)), (122, fun ls st h => px_if (px_fit [61, 0, 0, 1, 1, 1] ls && px_fits [] st) (mo_back_122 px_F (px_gi ls 3) (px_gi ls 4) (px_gi ls 5) h))]) (mo_back_orc_ok) pX_ok_RX11 mo_back_code_ok (px_k1 (px_ko (ts := [61, 0, 0, 1, 1, 1]) (ss := []) fun ls st h q e => ih _ _ _ _ _ e) (px_k1 (px_ko (ts := [61, 0, 0, 1, 1, 1]) (ss := []) fun ls st h q e => mo_back_122_ok _ _ _ _ _ _ e) px_k0)) 94 95 _ _ h q e
set_option maxRecDepth 200000 in
theorem mo_back_150_ok {d : Nat} {r28 : Int32 → Int32 → Int32 → pH → pR} (hr28 : ∀ (x1 : Int32) (x2 : Int32) (x3 : Int32) (h : pH) (q : Int32 × pH), r28 x1 x2 x3 h = some q → px_G (d + 128 + 1) (pX_RX11, prog_13_method_87_code, 6, (some .int)) 28 [some (.inr (.inl 51)), some (.inl x1), some (.inl x2), some (.inl x3), none, none] [] h q) {r37 : Int32 → Int32 → Int32 → Int32 → pH → pR} (hr37 : ∀ (x1 : Int32) (x2 : Int32) (x3 : Int32) (x4 : Int32) (h : pH) (q : Int32 × pH), r37 x1 x2 x3 x4 h = some q → px_G (d + 128 + 1) (pX_RX11, prog_13_method_87_code, 6, (some .int)) 37 [some (.inr (.inl 51)), some (.inl x1), some (.inl x2), some (.inl x3), some (.inl x4), none] [] h q) : ∀ (x1 : Int32) (x2 : Int32) (x3 : Int32) (x4 : Int32) (h : pH) (q : Int32 × pH), mo_back_150 r28 r37 x1 x2 x3 x4 h = some q → px_G (d + 128 + 1) (pX_RX11, prog_13_method_87_code, 6, (some .int)) 150 [some (.inr (.inl 51)), some (.inl x1), some (.inl x2), some (.inl x3), some (.inl x4), none] [] h q := by
  intro x1 x2 x3 x4 h q e
  exact px_blk_ok (d := d + 128) (M := (pX_RX11, prog_13_method_87_code, 6, (some .int))) (C := mo_back_orc) (code := mo_back_code) (ld := [37]) (kl := [(37, fun ls st h => px_if (px_fit [61, 1, 1, 1, 1, 0] ls && px_fits [] st) (r37 (px_gi ls 1) (px_gi ls 2) (px_gi ls 3) (px_gi ls 4) h))]) (mo_back_orc_ok) pX_ok_RX11 mo_back_code_ok (px_k1 (px_ko (ts := [61, 1, 1, 1, 1, 0]) (ss := []) fun ls st h q e => hr37 _ _ _ _ _ _ e) px_k0) 94 150 _ _ h q e
set_option maxRecDepth 200000 in
theorem mo_back_37_ok {d : Nat} {r28 : Int32 → Int32 → Int32 → pH → pR} (hr28 : ∀ (x1 : Int32) (x2 : Int32) (x3 : Int32) (h : pH) (q : Int32 × pH), r28 x1 x2 x3 h = some q → px_G (d + 128 + 1) (pX_RX11, prog_13_method_87_code, 6, (some .int)) 28 [some (.inr (.inl 51)), some (.inl x1), some (.inl x2), some (.inl x3), none, none] [] h q) : ∀ (n : Nat) (x1 : Int32) (x2 : Int32) (x3 : Int32) (x4 : Int32) (h : pH) (q : Int32 × pH), mo_back_37 r28 n x1 x2 x3 x4 h = some q → px_G (d + 128 + 1) (pX_RX11, prog_13_method_87_code, 6, (some .int)) 37 [some (.inr (.inl 51)), some (.inl x1), some (.inl x2), some (.inl x3), some (.inl x4), none] [] h q := by
  intro n
  induction n with
  | zero =>
    intro x1 x2 x3 x4 h q e
    cases e
  | succ n ih =>
    intro x1 x2 x3 x4 h q e
    exact px_blk_ok (d := d + 128) (M := (pX_RX11, prog_13_method_87_code, 6, (some .int))) (C := mo_back_orc) (code := mo_back_code) (ld := [28, 150, 95]) (kl := [(28, fun ls st h => px_if (px_fit [61, 1, 1, 1, 0, 0] ls && px_fits [] st) (r28 (px_gi ls 1) (px_gi ls 2) (px_gi ls 3) h)), (150, fun ls st h => px_if (px_fit [61, 1, 1, 1, 1, 0] ls && px_fits [] st) (mo_back_150 r28 (mo_back_37 r28 n) (px_gi ls 1) (px_gi ls 2) (px_gi ls 3) (px_gi ls 4) h)), (95, fun ls st h => px_if (px_fit [61, 0, 0, 1, 1, 1] ls && px_fits [] st) (mo_back_95 px_F (px_gi ls 3) (px_gi ls 4) (px_gi ls 5) h))]) (mo_back_orc_ok) pX_ok_RX11 mo_back_code_ok (px_k1 (px_ko (ts := [61, 1, 1, 1, 0, 0]) (ss := []) fun ls st h q e => hr28 _ _ _ _ _ e) (px_k1 (px_ko (ts := [61, 1, 1, 1, 1, 0]) (ss := []) fun ls st h q e => mo_back_150_ok hr28 ih _ _ _ _ _ _ e) (px_k1 (px_ko (ts := [61, 0, 0, 1, 1, 1]) (ss := []) fun ls st h q e => mo_back_95_ok _ _ _ _ _ _ e) px_k0))) 94 37 _ _ h q e
set_option maxRecDepth 200000 in
theorem mo_back_28_ok {d : Nat} : ∀ (n : Nat) (x1 : Int32) (x2 : Int32) (x3 : Int32) (h : pH) (q : Int32 × pH), mo_back_28 n x1 x2 x3 h = some q → px_G (d + 128 + 1) (pX_RX11, prog_13_method_87_code, 6, (some .int)) 28 [some (.inr (.inl 51)), some (.inl x1), some (.inl x2), some (.inl x3), none, none] [] h q := by
  intro n
  induction n with
  | zero =>
    intro x1 x2 x3 h q e
    cases e
  | succ n ih =>
    intro x1 x2 x3 h q e
    exact px_blk_ok (d := d + 128) (M := (pX_RX11, prog_13_method_87_code, 6, (some .int))) (C := mo_back_orc) (code := mo_back_code) (ld := [37]) (kl := [(37, fun ls st h => px_if (px_fit [61, 1, 1, 1, 1, 0] ls && px_fits [] st) (mo_back_37 (mo_back_28 n) px_F (px_gi ls 1) (px_gi ls 2) (px_gi ls 3) (px_gi ls 4) h))]) (mo_back_orc_ok) pX_ok_RX11 mo_back_code_ok (px_k1 (px_ko (ts := [61, 1, 1, 1, 1, 0]) (ss := []) fun ls st h q e => mo_back_37_ok ih _ _ _ _ _ _ _ e) px_k0) 94 28 _ _ h q e
set_option maxRecDepth 200000 in
theorem mo_back_ok {d : Nat} {x1 : Int32} {x2 : Int32} {h : pH} {q : Int32 × pH} (e : mo_back x1 x2 h = some q) : px_Con (d + 129) 259 [.inr (.inl 51), .inl x1, .inl x2] h q :=
  px_con (X := pX_RX11) (b := prog_13_method_87_code) (nL := 6) (rt := (some .int)) rfl rfl (Nat.le_of_ble_eq_true rfl) rfl (px_blk_ok (d := d + 128) (M := (pX_RX11, prog_13_method_87_code, 6, (some .int))) (C := mo_back_orc) (code := mo_back_code) (ld := [28, 24]) (kl := [(28, fun ls st h => px_if (px_fit [61, 1, 1, 1, 0, 0] ls && px_fits [] st) (mo_back_28 px_F (px_gi ls 1) (px_gi ls 2) (px_gi ls 3) h)), (24, fun ls st h => px_if (px_fit [0, 0, 0, 0, 0, 0] ls && px_fits [] st) (mo_back_24 h))]) (mo_back_orc_ok) pX_ok_RX11 mo_back_code_ok (px_k1 (px_ko (ts := [61, 1, 1, 1, 0, 0]) (ss := []) fun ls st h q e => mo_back_28_ok _ _ _ _ _ _ e) (px_k1 (px_ko (ts := [0, 0, 0, 0, 0, 0]) (ss := []) fun ls st h q e => mo_back_24_ok _ _ e) px_k0)) 94 0 _ _ _ q e)
/-! WordsUnsaidModel.exact(II)I -/
noncomputable def mo_exact_24 (h : pH) : pR :=
  some (px_c (-1), h)
noncomputable def mo_exact_128 (r48 : Int32 → Int32 → Int32 → Int32 → Int32 → Int32 → pH → pR) (x2 : Int32) (x3 : Int32) (x4 : Int32) (x5 : Int32) (x6 : Int32) (x7 : Int32) (h : pH) : pR :=
  r48 x2 x3 x4 x5 x6 (x7 + px_c 1) h
noncomputable def mo_exact_124 (r48 : Int32 → Int32 → Int32 → Int32 → Int32 → Int32 → pH → pR) (x2 : Int32) (x3 : Int32) (x4 : Int32) (x5 : Int32) (x7 : Int32) (h : pH) : pR :=
  mo_exact_128 r48 x2 x3 x4 x5 x7 x7 h
noncomputable def mo_exact_105 (r48 : Int32 → Int32 → Int32 → Int32 → Int32 → Int32 → pH → pR) (x2 : Int32) (x3 : Int32) (x4 : Int32) (x5 : Int32) (x6 : Int32) (x7 : Int32) (h : pH) : pR :=
  if x6 = (px_c (-1)) then
    mo_exact_124 r48 x2 x3 x4 x5 x7 h
  else
    px_bind (jn_bitCount x7 h) fun z1 h2 =>
    px_bind (jn_bitCount x6 h2) fun z3 h4 =>
    if z1 ≤ z3 then
      mo_exact_128 r48 x2 x3 x4 x5 x6 x7 h4
    else
      mo_exact_124 r48 x2 x3 x4 x5 x7 h4
noncomputable def mo_exact_101 (r48 : Int32 → Int32 → Int32 → Int32 → Int32 → Int32 → pH → pR) (x2 : Int32) (x3 : Int32) (x4 : Int32) (x6 : Int32) (x7 : Int32) (h : pH) : pR :=
  mo_exact_105 r48 x2 x3 x4 x7 x6 x7 h
noncomputable def mo_exact_48 : Nat → Int32 → Int32 → Int32 → Int32 → Int32 → Int32 → pH → pR
  | 0, _, _, _, _, _, _, _ => none
  | n + 1, x2, x3, x4, x5, x6, x7, h =>
    if x3 < x7 then
      let h1 := px_w h 51 13 (px_c 0)
      px_bind (mo_tell x5 h1) fun _ h3 =>
      px_bind (mo_tell x6 h3) fun _ h5 =>
      some (x4, h5)
    else
      if (x7 &&& (x3 ^^^ (px_c (-1)))) = 0 then
        px_bind (mo_leftIn 52 x7 h) fun z6 h7 =>
        if z6 = x2 then
          if x5 = (px_c (-1)) then
            mo_exact_101 (mo_exact_48 n) x2 x3 (x4 + px_c 1) x6 x7 h7
          else
            px_bind (jn_bitCount x7 h7) fun z8 h9 =>
            px_bind (jn_bitCount x5 h9) fun z10 h11 =>
            if z10 ≤ z8 then
              mo_exact_105 (mo_exact_48 n) x2 x3 (x4 + px_c 1) x5 x6 x7 h11
            else
              mo_exact_101 (mo_exact_48 n) x2 x3 (x4 + px_c 1) x6 x7 h11
        else
          mo_exact_128 (mo_exact_48 n) x2 x3 x4 x5 x6 x7 h7
      else
        mo_exact_128 (mo_exact_48 n) x2 x3 x4 x5 x6 x7 h
noncomputable def mo_exact (x1 : Int32) (x2 : Int32) (h : pH) : pR :=
  let h1 := px_w h 51 14 (px_c 0)
  px_bind (mo_isPerson x1 h1) fun z2 h3 =>
  if z2 = 0 then
    mo_exact_24 h3
  else
    px_bind (mo_in x2 (px_c 1) (px_c 400) h3) fun z4 h5 =>
    if z4 = 0 then
      mo_exact_24 h5
    else
      px_bind (mo_unsaid 52 x1 h5) fun z6 h7 =>
      mo_exact_48 px_F x2 z6 (px_c 0) (px_c (-1)) (px_c (-1)) (px_c 0) h7
def mo_exact_code : pCode := [(0, .aload_n 0, 1), (1, .iconst 0, 1), (2, .putfield 106, 3), (5, .aload_n 0, 1), (6, .iload_n 1, 1), (7, .invokevirtual 122, 3), (10, .ifCond .eq (14), 3), (13, .iload_n 2, 1), (14, .iconst 1, 1), (15, .sipush (400), 3), (18, .invokestatic 115, 3), (21, .ifCond .ne (5), 3), (24, .iconst (-1), 1), (25, .ireturn, 1), (26, .aload_n 0, 1), (27, .aload_n 0, 1), (28, .getfield 9, 3), (31, .iload_n 1, 1), (32, .invokevirtual 245, 3), (35, .istore_n 3, 1), (36, .iconst 0, 1), (37, .istore 4, 2), (39, .iconst (-1), 1), (40, .istore 5, 2), (42, .iconst (-1), 1), (43, .istore 6, 2), (45, .iconst 0, 1), (46, .istore 7, 2), (48, .iload 7, 2), (50, .iload_n 3, 1), (51, .if_icmp .gt (83), 3), (54, .iload 7, 2), (56, .iload_n 3, 1), (57, .iconst (-1), 1), (58, .ixor, 1), (59, .iand, 1), (60, .ifCond .ne (68), 3), (63, .aload_n 0, 1), (64, .getfield 9, 3), (67, .iload 7, 2), (69, .invokestatic 248, 3), (72, .iload_n 2, 1), (73, .if_icmp .eq (6), 3), (76, .goto (52), 3), (79, .iinc 4 (1), 3), (82, .iload 5, 2), (84, .iconst (-1), 1), (85, .if_icmp .eq (16), 3), (88, .iload 7, 2), (90, .invokestatic 222, 3), (93, .iload 5, 2), (95, .invokestatic 222, 3), (98, .if_icmp .ge (7), 3), (101, .iload 7, 2), (103, .istore 5, 2), (105, .iload 6, 2), (107, .iconst (-1), 1), (108, .if_icmp .eq (16), 3), (111, .iload 7, 2), (113, .invokestatic 222, 3), (116, .iload 6, 2), (118, .invokestatic 222, 3), (121, .if_icmp .le (7), 3), (124, .iload 7, 2), (126, .istore 6, 2), (128, .iinc 7 (1), 3), (131, .goto (-83), 3), (134, .aload_n 0, 1), (135, .iconst 0, 1), (136, .putfield 109, 3), (139, .aload_n 0, 1), (140, .iload 5, 2), (142, .invokevirtual 312, 3), (145, .aload_n 0, 1), (146, .iload 6, 2), (148, .invokevirtual 312, 3), (151, .iload 4, 2), (153, .ireturn, 1)]
set_option maxRecDepth 200000 in
theorem mo_exact_code_ok : px_code prog_13_method_88_code mo_exact_code = true := by decide +kernel
noncomputable def mo_exact_orc : pC := px_orc [(279, fun a h => match a with
    | [.inl v0] => jn_bitCount v0 h
    | _ => none), (178, fun a h => match a with
    | [.inr (.inl 51), .inl v1] => mo_tell v1 h
    | _ => none), (211, fun a h => match a with
    | [.inr (.inl v0), .inl v1] => mo_leftIn v0 v1 h
    | _ => none), (179, fun a h => match a with
    | [.inr (.inl 51), .inl v1] => mo_isPerson v1 h
    | _ => none), (175, fun a h => match a with
    | [.inl v0, .inl v1, .inl v2] => mo_in v0 v1 v2 h
    | _ => none), (212, fun a h => match a with
    | [.inr (.inl 51), .inr (.inl v1), .inl v2] => mo_unsaid v1 v2 h
    | _ => none)]
theorem mo_exact_orc_ok {d : Nat} : px_Or (d + 2) (mo_exact_orc) := px_orc_ok (by
  refine px_o1 (fun a h q e => by
    dsimp only at e
    split at e
    · exact jn_bitCount_ok (d := d + 1) e
    · cases e) ?_
  refine px_o1 (fun a h q e => by
    dsimp only at e
    split at e
    · exact mo_tell_ok (d := d + 1) e
    · cases e) ?_
  refine px_o1 (fun a h q e => by
    dsimp only at e
    split at e
    · exact mo_leftIn_ok (d := d + 0) e
    · cases e) ?_
  refine px_o1 (fun a h q e => by
    dsimp only at e
    split at e
    · exact mo_isPerson_ok (d := d + 0) e
    · cases e) ?_
  refine px_o1 (fun a h q e => by
    dsimp only at e
    split at e
    · exact mo_in_ok (d := d + 1) e
    · cases e) ?_
  refine px_o1 (fun a h q e => by
    dsimp only at e
    split at e
    · exact mo_unsaid_ok (d := d + 0) e
    · cases e) ?_
  exact px_o0)
set_option maxRecDepth 200000 in
theorem mo_exact_24_ok {d : Nat} : ∀ (h : pH) (q : Int32 × pH), mo_exact_24 h = some q → px_G (d + 2 + 1) (pX_RX11, prog_13_method_88_code, 8, (some .int)) 24 [none, none, none, none, none, none, none, none] [] h q := by
  intro h q e
  exact px_blk_ok (d := d + 2) (M := (pX_RX11, prog_13_method_88_code, 8, (some .int))) (C := mo_exact_orc) (code := mo_exact_code) (ld := []) (kl := []) (mo_exact_orc_ok) pX_ok_RX11 mo_exact_code_ok (px_k0) 83 24 _ _ h q e
set_option maxRecDepth 200000 in
theorem mo_exact_128_ok {d : Nat} {r48 : Int32 → Int32 → Int32 → Int32 → Int32 → Int32 → pH → pR} (hr48 : ∀ (x2 : Int32) (x3 : Int32) (x4 : Int32) (x5 : Int32) (x6 : Int32) (x7 : Int32) (h : pH) (q : Int32 × pH), r48 x2 x3 x4 x5 x6 x7 h = some q → px_G (d + 2 + 1) (pX_RX11, prog_13_method_88_code, 8, (some .int)) 48 [some (.inr (.inl 51)), none, some (.inl x2), some (.inl x3), some (.inl x4), some (.inl x5), some (.inl x6), some (.inl x7)] [] h q) : ∀ (x2 : Int32) (x3 : Int32) (x4 : Int32) (x5 : Int32) (x6 : Int32) (x7 : Int32) (h : pH) (q : Int32 × pH), mo_exact_128 r48 x2 x3 x4 x5 x6 x7 h = some q → px_G (d + 2 + 1) (pX_RX11, prog_13_method_88_code, 8, (some .int)) 128 [some (.inr (.inl 51)), none, some (.inl x2), some (.inl x3), some (.inl x4), some (.inl x5), some (.inl x6), some (.inl x7)] [] h q := by
  intro x2 x3 x4 x5 x6 x7 h q e
  exact px_blk_ok (d := d + 2) (M := (pX_RX11, prog_13_method_88_code, 8, (some .int))) (C := mo_exact_orc) (code := mo_exact_code) (ld := [48]) (kl := [(48, fun ls st h => px_if (px_fit [61, 0, 1, 1, 1, 1, 1, 1] ls && px_fits [] st) (r48 (px_gi ls 2) (px_gi ls 3) (px_gi ls 4) (px_gi ls 5) (px_gi ls 6) (px_gi ls 7) h))]) (mo_exact_orc_ok) pX_ok_RX11 mo_exact_code_ok (px_k1 (px_ko (ts := [61, 0, 1, 1, 1, 1, 1, 1]) (ss := []) fun ls st h q e => hr48 _ _ _ _ _ _ _ _ e) px_k0) 83 128 _ _ h q e
set_option maxRecDepth 200000 in
theorem mo_exact_124_ok {d : Nat} {r48 : Int32 → Int32 → Int32 → Int32 → Int32 → Int32 → pH → pR} (hr48 : ∀ (x2 : Int32) (x3 : Int32) (x4 : Int32) (x5 : Int32) (x6 : Int32) (x7 : Int32) (h : pH) (q : Int32 × pH), r48 x2 x3 x4 x5 x6 x7 h = some q → px_G (d + 2 + 1) (pX_RX11, prog_13_method_88_code, 8, (some .int)) 48 [some (.inr (.inl 51)), none, some (.inl x2), some (.inl x3), some (.inl x4), some (.inl x5), some (.inl x6), some (.inl x7)] [] h q) : ∀ (x2 : Int32) (x3 : Int32) (x4 : Int32) (x5 : Int32) (x7 : Int32) (h : pH) (q : Int32 × pH), mo_exact_124 r48 x2 x3 x4 x5 x7 h = some q → px_G (d + 2 + 1) (pX_RX11, prog_13_method_88_code, 8, (some .int)) 124 [some (.inr (.inl 51)), none, some (.inl x2), some (.inl x3), some (.inl x4), some (.inl x5), none, some (.inl x7)] [] h q := by
  intro x2 x3 x4 x5 x7 h q e
  exact px_blk_ok (d := d + 2) (M := (pX_RX11, prog_13_method_88_code, 8, (some .int))) (C := mo_exact_orc) (code := mo_exact_code) (ld := [128]) (kl := [(128, fun ls st h => px_if (px_fit [61, 0, 1, 1, 1, 1, 1, 1] ls && px_fits [] st) (mo_exact_128 r48 (px_gi ls 2) (px_gi ls 3) (px_gi ls 4) (px_gi ls 5) (px_gi ls 6) (px_gi ls 7) h))]) (mo_exact_orc_ok) pX_ok_RX11 mo_exact_code_ok (px_k1 (px_ko (ts := [61, 0, 1, 1, 1, 1, 1, 1]) (ss := []) fun ls st h q e => mo_exact_128_ok hr48 _ _ _ _ _ _ _ _ e) px_k0) 83 124 _ _ h q e
set_option maxRecDepth 200000 in
theorem mo_exact_105_ok {d : Nat} {r48 : Int32 → Int32 → Int32 → Int32 → Int32 → Int32 → pH → pR} (hr48 : ∀ (x2 : Int32) (x3 : Int32) (x4 : Int32) (x5 : Int32) (x6 : Int32) (x7 : Int32) (h : pH) (q : Int32 × pH), r48 x2 x3 x4 x5 x6 x7 h = some q → px_G (d + 2 + 1) (pX_RX11, prog_13_method_88_code, 8, (some .int)) 48 [some (.inr (.inl 51)), none, some (.inl x2), some (.inl x3), some (.inl x4), some (.inl x5), some (.inl x6), some (.inl x7)] [] h q) : ∀ (x2 : Int32) (x3 : Int32) (x4 : Int32) (x5 : Int32) (x6 : Int32) (x7 : Int32) (h : pH) (q : Int32 × pH), mo_exact_105 r48 x2 x3 x4 x5 x6 x7 h = some q → px_G (d + 2 + 1) (pX_RX11, prog_13_method_88_code, 8, (some .int)) 105 [some (.inr (.inl 51)), none, some (.inl x2), some (.inl x3), some (.inl x4), some (.inl x5), some (.inl x6), some (.inl x7)] [] h q := by
  intro x2 x3 x4 x5 x6 x7 h q e
  exact px_blk_ok (d := d + 2) (M := (pX_RX11, prog_13_method_88_code, 8, (some .int))) (C := mo_exact_orc) (code := mo_exact_code) (ld := [124, 128]) (kl := [(124, fun ls st h => px_if (px_fit [61, 0, 1, 1, 1, 1, 0, 1] ls && px_fits [] st) (mo_exact_124 r48 (px_gi ls 2) (px_gi ls 3) (px_gi ls 4) (px_gi ls 5) (px_gi ls 7) h)), (128, fun ls st h => px_if (px_fit [61, 0, 1, 1, 1, 1, 1, 1] ls && px_fits [] st) (mo_exact_128 r48 (px_gi ls 2) (px_gi ls 3) (px_gi ls 4) (px_gi ls 5) (px_gi ls 6) (px_gi ls 7) h))]) (mo_exact_orc_ok) pX_ok_RX11 mo_exact_code_ok (px_k1 (px_ko (ts := [61, 0, 1, 1, 1, 1, 0, 1]) (ss := []) fun ls st h q e => mo_exact_124_ok hr48 _ _ _ _ _ _ _ e) (px_k1 (px_ko (ts := [61, 0, 1, 1, 1, 1, 1, 1]) (ss := []) fun ls st h q e => mo_exact_128_ok hr48 _ _ _ _ _ _ _ _ e) px_k0)) 83 105 _ _ h q e
set_option maxRecDepth 200000 in
theorem mo_exact_101_ok {d : Nat} {r48 : Int32 → Int32 → Int32 → Int32 → Int32 → Int32 → pH → pR} (hr48 : ∀ (x2 : Int32) (x3 : Int32) (x4 : Int32) (x5 : Int32) (x6 : Int32) (x7 : Int32) (h : pH) (q : Int32 × pH), r48 x2 x3 x4 x5 x6 x7 h = some q → px_G (d + 2 + 1) (pX_RX11, prog_13_method_88_code, 8, (some .int)) 48 [some (.inr (.inl 51)), none, some (.inl x2), some (.inl x3), some (.inl x4), some (.inl x5), some (.inl x6), some (.inl x7)] [] h q) : ∀ (x2 : Int32) (x3 : Int32) (x4 : Int32) (x6 : Int32) (x7 : Int32) (h : pH) (q : Int32 × pH), mo_exact_101 r48 x2 x3 x4 x6 x7 h = some q → px_G (d + 2 + 1) (pX_RX11, prog_13_method_88_code, 8, (some .int)) 101 [some (.inr (.inl 51)), none, some (.inl x2), some (.inl x3), some (.inl x4), none, some (.inl x6), some (.inl x7)] [] h q := by
  intro x2 x3 x4 x6 x7 h q e
  exact px_blk_ok (d := d + 2) (M := (pX_RX11, prog_13_method_88_code, 8, (some .int))) (C := mo_exact_orc) (code := mo_exact_code) (ld := [105]) (kl := [(105, fun ls st h => px_if (px_fit [61, 0, 1, 1, 1, 1, 1, 1] ls && px_fits [] st) (mo_exact_105 r48 (px_gi ls 2) (px_gi ls 3) (px_gi ls 4) (px_gi ls 5) (px_gi ls 6) (px_gi ls 7) h))]) (mo_exact_orc_ok) pX_ok_RX11 mo_exact_code_ok (px_k1 (px_ko (ts := [61, 0, 1, 1, 1, 1, 1, 1]) (ss := []) fun ls st h q e => mo_exact_105_ok hr48 _ _ _ _ _ _ _ _ e) px_k0) 83 101 _ _ h q e
set_option maxRecDepth 200000 in
theorem mo_exact_48_ok {d : Nat} : ∀ (n : Nat) (x2 : Int32) (x3 : Int32) (x4 : Int32) (x5 : Int32) (x6 : Int32) (x7 : Int32) (h : pH) (q : Int32 × pH), mo_exact_48 n x2 x3 x4 x5 x6 x7 h = some q → px_G (d + 2 + 1) (pX_RX11, prog_13_method_88_code, 8, (some .int)) 48 [some (.inr (.inl 51)), none, some (.inl x2), some (.inl x3), some (.inl x4), some (.inl x5), some (.inl x6), some (.inl x7)] [] h q := by
  intro n
  induction n with
  | zero =>
    intro x2 x3 x4 x5 x6 x7 h q e
    cases e
  | succ n ih =>
    intro x2 x3 x4 x5 x6 x7 h q e
    exact px_blk_ok (d := d + 2) (M := (pX_RX11, prog_13_method_88_code, 8, (some .int))) (C := mo_exact_orc) (code := mo_exact_code) (ld := [101, 105, 128]) (kl := [(101, fun ls st h => px_if (px_fit [61, 0, 1, 1, 1, 0, 1, 1] ls && px_fits [] st) (mo_exact_101 (mo_exact_48 n) (px_gi ls 2) (px_gi ls 3) (px_gi ls 4) (px_gi ls 6) (px_gi ls 7) h)), (105, fun ls st h => px_if (px_fit [61, 0, 1, 1, 1, 1, 1, 1] ls && px_fits [] st) (mo_exact_105 (mo_exact_48 n) (px_gi ls 2) (px_gi ls 3) (px_gi ls 4) (px_gi ls 5) (px_gi ls 6) (px_gi ls 7) h)), (128, fun ls st h => px_if (px_fit [61, 0, 1, 1, 1, 1, 1, 1] ls && px_fits [] st) (mo_exact_128 (mo_exact_48 n) (px_gi ls 2) (px_gi ls 3) (px_gi ls 4) (px_gi ls 5) (px_gi ls 6) (px_gi ls 7) h))]) (mo_exact_orc_ok) pX_ok_RX11 mo_exact_code_ok (px_k1 (px_ko (ts := [61, 0, 1, 1, 1, 0, 1, 1]) (ss := []) fun ls st h q e => mo_exact_101_ok ih _ _ _ _ _ _ _ e) (px_k1 (px_ko (ts := [61, 0, 1, 1, 1, 1, 1, 1]) (ss := []) fun ls st h q e => mo_exact_105_ok ih _ _ _ _ _ _ _ _ e) (px_k1 (px_ko (ts := [61, 0, 1, 1, 1, 1, 1, 1]) (ss := []) fun ls st h q e => mo_exact_128_ok ih _ _ _ _ _ _ _ _ e) px_k0))) 83 48 _ _ h q e
set_option maxRecDepth 200000 in
theorem mo_exact_ok {d : Nat} {x1 : Int32} {x2 : Int32} {h : pH} {q : Int32 × pH} (e : mo_exact x1 x2 h = some q) : px_Con (d + 3) 260 [.inr (.inl 51), .inl x1, .inl x2] h q :=
  px_con (X := pX_RX11) (b := prog_13_method_88_code) (nL := 8) (rt := (some .int)) rfl rfl (Nat.le_of_ble_eq_true rfl) rfl (px_blk_ok (d := d + 2) (M := (pX_RX11, prog_13_method_88_code, 8, (some .int))) (C := mo_exact_orc) (code := mo_exact_code) (ld := [48, 24]) (kl := [(48, fun ls st h => px_if (px_fit [61, 0, 1, 1, 1, 1, 1, 1] ls && px_fits [] st) (mo_exact_48 px_F (px_gi ls 2) (px_gi ls 3) (px_gi ls 4) (px_gi ls 5) (px_gi ls 6) (px_gi ls 7) h)), (24, fun ls st h => px_if (px_fit [0, 0, 0, 0, 0, 0, 0, 0] ls && px_fits [] st) (mo_exact_24 h))]) (mo_exact_orc_ok) pX_ok_RX11 mo_exact_code_ok (px_k1 (px_ko (ts := [61, 0, 1, 1, 1, 1, 1, 1]) (ss := []) fun ls st h q e => mo_exact_48_ok _ _ _ _ _ _ _ _ _ e) (px_k1 (px_ko (ts := [0, 0, 0, 0, 0, 0, 0, 0]) (ss := []) fun ls st h q e => mo_exact_24_ok _ _ e) px_k0)) 83 0 _ _ _ q e)
/-! WordsUnsaidModel.chance(II)I -/
noncomputable def mo_chance_196 (r89 : Int32 → Int32 → Int32 → Int32 → Int32 → Int32 → Int32 → Int32 → Int32 → pH → pR) (x1 : Int32) (x3 : Int32) (x5 : Int32) (x6 : Int32) (x7 : Int32) (x8 : Int32) (x9 : Int32) (x10 : Int32) (x11 : Int32) (h : pH) : pR :=
  px_if (px_ok 0 65 x9) <|
  px_if (px_ok 0 68 ((px_c 12) + (h 65 x9.toNatClampNeg))) <|
  px_if (px_ok 0 68 ((px_c 12) + (h 65 x9.toNatClampNeg))) <|
  let h1 := px_w h 68 ((px_c 12) + (h 65 x9.toNatClampNeg)).toNatClampNeg ((h 68 ((px_c 12) + (h 65 x9.toNatClampNeg)).toNatClampNeg) - (px_c 1))
  r89 x1 x3 x5 x6 x7 x8 x9 (x10 + px_c 1) (x11 + px_c 1) h1
noncomputable def mo_chance_96 (r89 : Int32 → Int32 → Int32 → Int32 → Int32 → Int32 → Int32 → Int32 → Int32 → pH → pR) : Nat → Int32 → Int32 → Int32 → Int32 → Int32 → Int32 → Int32 → Int32 → Int32 → pH → pR
  | 0, _, _, _, _, _, _, _, _, _, _ => none
  | n + 1, x1, x3, x5, x6, x7, x8, x9, x10, x11, h =>
    px_if (px_ok 0 65 x9) <|
    px_if (px_ok 0 68 ((px_c 12) + (h 65 x9.toNatClampNeg))) <|
    if (h 68 ((px_c 12) + (h 65 x9.toNatClampNeg)).toNatClampNeg) = 0 then
      mo_chance_96 r89 n x1 x3 x5 x6 x7 x8 (x9 + px_c 1) (px_c 0) x11 h
    else
      px_if (px_ok 0 54 x1) <|
      px_if (px_ok 0 65 x9) <|
      px_bind (mo_pressureOf 68 (h 65 x9.toNatClampNeg) x10 x11 x3 h) fun z1 h2 =>
      let y12_3 := (((h 54 x1.toNatClampNeg).toInt64) - z1.toInt64) + (Int64.ofNat 1)
      let y14_4 := (px_maxL (Int64.ofNat 0) (px_minL 10 y12_3)).toInt32
      if (px_c 10) = 0 then none else
      let y6_5 := (x6 * y14_4) / (px_c 10)
      if x7 ≤ y14_4 then
        mo_chance_196 r89 x1 x3 x5 y6_5 x7 x8 x9 x10 x11 h2
      else
        mo_chance_196 r89 x1 x3 x5 y6_5 y14_4 x11 x9 x10 x11 h2
noncomputable def mo_chance_89 : Nat → Int32 → Int32 → Int32 → Int32 → Int32 → Int32 → Int32 → Int32 → Int32 → pH → pR
  | 0, _, _, _, _, _, _, _, _, _, _ => none
  | n + 1, x1, x3, x5, x6, x7, x8, x9, x10, x11, h =>
    if x5 ≤ x11 then
      let h1 := px_w h 51 13 (px_c 0)
      px_bind (mo_tell x8 h1) fun _ h3 =>
      some (x6, h3)
    else
      mo_chance_96 (mo_chance_89 n) px_F x1 x3 x5 x6 x7 x8 x9 x10 x11 h
noncomputable def mo_chance_29 (x1 : Int32) (x2 : Int32) (x3 : Int32) (s0 : Int32) (s1 : Int32) (h : pH) : pR :=
  px_bind (mo_readLine0 s1 s0 x2 h) fun z1 h2 =>
  if 0 ≤ z1 then
    px_bind (mo_lay 52 68 (px_c 0) h2) fun _ h4 =>
    px_if (px_ok 0 52 x1) <|
    px_bind (mo_distance (h4 52 x1.toNatClampNeg) x2 h4) fun z5 h6 =>
    mo_chance_89 px_F x1 x3 z5 (px_c 10000) (px_c 10) (px_c (-1)) (px_c 0) (px_c 0) (px_c 0) h6
  else
    some (z1, h2)
noncomputable def mo_chance (x1 : Int32) (x2 : Int32) (h : pH) : pR :=
  let h1 := px_w h 51 14 (px_c 0)
  px_bind (mo_aboardOf x1 (px_c (-1)) x2 h1) fun z2 h3 =>
  if z2 = 0 then
    mo_chance_29 x1 x2 z2 (px_c 0) z2 h3
  else
    px_if (px_ok 0 52 x1) <|
    mo_chance_29 x1 x2 z2 (h3 52 x1.toNatClampNeg) z2 h3
def mo_chance_code : pCode := [(0, .aload_n 0, 1), (1, .iconst 0, 1), (2, .putfield 106, 3), (5, .aload_n 0, 1), (6, .iload_n 1, 1), (7, .iconst (-1), 1), (8, .iload_n 2, 1), (9, .invokevirtual 315, 3), (12, .istore_n 3, 1), (13, .aload_n 0, 1), (14, .iload_n 3, 1), (15, .iload_n 3, 1), (16, .ifCond .ne (7), 3), (19, .iconst 0, 1), (20, .goto (9), 3), (23, .aload_n 0, 1), (24, .getfield 9, 3), (27, .iload_n 1, 1), (28, .iaload, 1), (29, .iload_n 2, 1), (30, .invokevirtual 319, 3), (33, .istore 4, 2), (35, .iload 4, 2), (37, .ifCond .ge (6), 3), (40, .iload 4, 2), (42, .ireturn, 1), (43, .aload_n 0, 1), (44, .getfield 9, 3), (47, .aload_n 0, 1), (48, .getfield 63, 3), (51, .iconst 0, 1), (52, .invokestatic 295, 3), (55, .aload_n 0, 1), (56, .aload_n 0, 1), (57, .getfield 9, 3), (60, .iload_n 1, 1), (61, .iaload, 1), (62, .iload_n 2, 1), (63, .invokevirtual 268, 3), (66, .istore 5, 2), (68, .sipush (10000), 3), (71, .istore 6, 2), (73, .bipush (10), 2), (75, .istore 7, 2), (77, .iconst (-1), 1), (78, .istore 8, 2), (80, .iconst 0, 1), (81, .istore 9, 2), (83, .iconst 0, 1), (84, .istore 10, 2), (86, .iconst 0, 1), (87, .istore 11, 2), (89, .iload 11, 2), (91, .iload 5, 2), (93, .if_icmp .ge (131), 3), (96, .aload_n 0, 1), (97, .getfield 63, 3), (100, .bipush (12), 2), (102, .aload_n 0, 1), (103, .getfield 54, 3), (106, .iload 9, 2), (108, .iaload, 1), (109, .iadd, 1), (110, .iaload, 1), (111, .ifCond .ne (12), 3), (114, .iinc 9 (1), 3), (117, .iconst 0, 1), (118, .istore 10, 2), (120, .goto (-24), 3), (123, .aload_n 0, 1), (124, .getfield 20, 3), (127, .iload_n 1, 1), (128, .iaload, 1), (129, .i2l, 1), (130, .aload_n 0, 1), (131, .aload_n 0, 1), (132, .getfield 63, 3), (135, .aload_n 0, 1), (136, .getfield 54, 3), (139, .iload 9, 2), (141, .iaload, 1), (142, .iload 10, 2), (144, .iload 11, 2), (146, .iload_n 3, 1), (147, .invokevirtual 277, 3), (150, .i2l, 1), (151, .lsub, 1), (152, .lconst 1, 1), (153, .ladd, 1), (154, .lstore 12, 2), (156, .lconst 0, 1), (157, .ldc2_w 429, 3), (160, .lload 12, 2), (162, .invokestatic 431, 3), (165, .invokestatic 434, 3), (168, .l2i, 1), (169, .istore 14, 2), (171, .iload 6, 2), (173, .iload 14, 2), (175, .imul, 1), (176, .bipush (10), 2), (178, .idiv, 1), (179, .istore 6, 2), (181, .iload 14, 2), (183, .iload 7, 2), (185, .if_icmp .ge (11), 3), (188, .iload 14, 2), (190, .istore 7, 2), (192, .iload 11, 2), (194, .istore 8, 2), (196, .aload_n 0, 1), (197, .getfield 63, 3), (200, .bipush (12), 2), (202, .aload_n 0, 1), (203, .getfield 54, 3), (206, .iload 9, 2), (208, .iaload, 1), (209, .iadd, 1), (210, .dup2, 1), (211, .iaload, 1), (212, .iconst 1, 1), (213, .isub, 1), (214, .iastore, 1), (215, .iinc 10 (1), 3), (218, .iinc 11 (1), 3), (221, .goto (-132), 3), (224, .aload_n 0, 1), (225, .iconst 0, 1), (226, .putfield 109, 3), (229, .aload_n 0, 1), (230, .iload 8, 2), (232, .invokevirtual 312, 3), (235, .iload 6, 2), (237, .ireturn, 1)]
set_option maxRecDepth 200000 in
theorem mo_chance_code_ok : px_code prog_13_method_89_code mo_chance_code = true := by decide +kernel
noncomputable def mo_chance_orc : pC := px_orc [(206, fun a h => match a with
    | [.inr (.inl 51), .inr (.inl v1), .inl v2, .inl v3, .inl v4, .inl v5] => mo_pressureOf v1 v2 v3 v4 v5 h
    | _ => none), (178, fun a h => match a with
    | [.inr (.inl 51), .inl v1] => mo_tell v1 h
    | _ => none), (227, fun a h => match a with
    | [.inr (.inl 51), .inl v1, .inl v2, .inl v3] => mo_readLine0 v1 v2 v3 h
    | _ => none), (223, fun a h => match a with
    | [.inr (.inl v0), .inr (.inl v1), .inl v2] => mo_lay v0 v1 v2 h
    | _ => none), (218, fun a h => match a with
    | [.inr (.inl 51), .inl v1, .inl v2] => mo_distance v1 v2 h
    | _ => none), (225, fun a h => match a with
    | [.inr (.inl 51), .inl v1, .inl v2, .inl v3] => mo_aboardOf v1 v2 v3 h
    | _ => none)]
theorem mo_chance_orc_ok {d : Nat} : px_Or (d + 105) (mo_chance_orc) := px_orc_ok (by
  refine px_o1 (fun a h q e => by
    dsimp only at e
    split at e
    · exact mo_pressureOf_ok (d := d + 0) e
    · cases e) ?_
  refine px_o1 (fun a h q e => by
    dsimp only at e
    split at e
    · exact mo_tell_ok (d := d + 104) e
    · cases e) ?_
  refine px_o1 (fun a h q e => by
    dsimp only at e
    split at e
    · exact mo_readLine0_ok (d := d + 101) e
    · cases e) ?_
  refine px_o1 (fun a h q e => by
    dsimp only at e
    split at e
    · exact mo_lay_ok (d := d + 104) e
    · cases e) ?_
  refine px_o1 (fun a h q e => by
    dsimp only at e
    split at e
    · exact mo_distance_ok (d := d + 103) e
    · cases e) ?_
  refine px_o1 (fun a h q e => by
    dsimp only at e
    split at e
    · exact mo_aboardOf_ok (d := d + 101) e
    · cases e) ?_
  exact px_o0)
set_option maxRecDepth 200000 in
theorem mo_chance_196_ok {d : Nat} {r89 : Int32 → Int32 → Int32 → Int32 → Int32 → Int32 → Int32 → Int32 → Int32 → pH → pR} (hr89 : ∀ (x1 : Int32) (x3 : Int32) (x5 : Int32) (x6 : Int32) (x7 : Int32) (x8 : Int32) (x9 : Int32) (x10 : Int32) (x11 : Int32) (h : pH) (q : Int32 × pH), r89 x1 x3 x5 x6 x7 x8 x9 x10 x11 h = some q → px_G (d + 105 + 1) (pX_RX11, prog_13_method_89_code, 15, (some .int)) 89 [some (.inr (.inl 51)), some (.inl x1), none, some (.inl x3), none, some (.inl x5), some (.inl x6), some (.inl x7), some (.inl x8), some (.inl x9), some (.inl x10), some (.inl x11), none, none, none] [] h q) : ∀ (x1 : Int32) (x3 : Int32) (x5 : Int32) (x6 : Int32) (x7 : Int32) (x8 : Int32) (x9 : Int32) (x10 : Int32) (x11 : Int32) (h : pH) (q : Int32 × pH), mo_chance_196 r89 x1 x3 x5 x6 x7 x8 x9 x10 x11 h = some q → px_G (d + 105 + 1) (pX_RX11, prog_13_method_89_code, 15, (some .int)) 196 [some (.inr (.inl 51)), some (.inl x1), none, some (.inl x3), none, some (.inl x5), some (.inl x6), some (.inl x7), some (.inl x8), some (.inl x9), some (.inl x10), some (.inl x11), none, none, none] [] h q := by
  intro x1 x3 x5 x6 x7 x8 x9 x10 x11 h q e
  exact px_blk_ok (d := d + 105) (M := (pX_RX11, prog_13_method_89_code, 15, (some .int))) (C := mo_chance_orc) (code := mo_chance_code) (ld := [89]) (kl := [(89, fun ls st h => px_if (px_fit [61, 1, 0, 1, 0, 1, 1, 1, 1, 1, 1, 1, 0, 0, 0] ls && px_fits [] st) (r89 (px_gi ls 1) (px_gi ls 3) (px_gi ls 5) (px_gi ls 6) (px_gi ls 7) (px_gi ls 8) (px_gi ls 9) (px_gi ls 10) (px_gi ls 11) h))]) (mo_chance_orc_ok) pX_ok_RX11 mo_chance_code_ok (px_k1 (px_ko (ts := [61, 1, 0, 1, 0, 1, 1, 1, 1, 1, 1, 1, 0, 0, 0]) (ss := []) fun ls st h q e => hr89 _ _ _ _ _ _ _ _ _ _ _ e) px_k0) 139 196 _ _ h q e
set_option maxRecDepth 200000 in
theorem mo_chance_96_ok {d : Nat} {r89 : Int32 → Int32 → Int32 → Int32 → Int32 → Int32 → Int32 → Int32 → Int32 → pH → pR} (hr89 : ∀ (x1 : Int32) (x3 : Int32) (x5 : Int32) (x6 : Int32) (x7 : Int32) (x8 : Int32) (x9 : Int32) (x10 : Int32) (x11 : Int32) (h : pH) (q : Int32 × pH), r89 x1 x3 x5 x6 x7 x8 x9 x10 x11 h = some q → px_G (d + 105 + 1) (pX_RX11, prog_13_method_89_code, 15, (some .int)) 89 [some (.inr (.inl 51)), some (.inl x1), none, some (.inl x3), none, some (.inl x5), some (.inl x6), some (.inl x7), some (.inl x8), some (.inl x9), some (.inl x10), some (.inl x11), none, none, none] [] h q) : ∀ (n : Nat) (x1 : Int32) (x3 : Int32) (x5 : Int32) (x6 : Int32) (x7 : Int32) (x8 : Int32) (x9 : Int32) (x10 : Int32) (x11 : Int32) (h : pH) (q : Int32 × pH), mo_chance_96 r89 n x1 x3 x5 x6 x7 x8 x9 x10 x11 h = some q → px_G (d + 105 + 1) (pX_RX11, prog_13_method_89_code, 15, (some .int)) 96 [some (.inr (.inl 51)), some (.inl x1), none, some (.inl x3), none, some (.inl x5), some (.inl x6), some (.inl x7), some (.inl x8), some (.inl x9), some (.inl x10), some (.inl x11), none, none, none] [] h q := by
  intro n
  induction n with
  | zero =>
    intro x1 x3 x5 x6 x7 x8 x9 x10 x11 h q e
    cases e
  | succ n ih =>
    intro x1 x3 x5 x6 x7 x8 x9 x10 x11 h q e
    exact px_blk_ok (d := d + 105) (M := (pX_RX11, prog_13_method_89_code, 15, (some .int))) (C := mo_chance_orc) (code := mo_chance_code) (ld := [96, 196]) (kl := [(96, fun ls st h => px_if (px_fit [61, 1, 0, 1, 0, 1, 1, 1, 1, 1, 1, 1, 0, 0, 0] ls && px_fits [] st) (mo_chance_96 r89 n (px_gi ls 1) (px_gi ls 3) (px_gi ls 5) (px_gi ls 6) (px_gi ls 7) (px_gi ls 8) (px_gi ls 9) (px_gi ls 10) (px_gi ls 11) h)), (196, fun ls st h => px_if (px_fit [61, 1, 0, 1, 0, 1, 1, 1, 1, 1, 1, 1, 0, 0, 0] ls && px_fits [] st) (mo_chance_196 r89 (px_gi ls 1) (px_gi ls 3) (px_gi ls 5) (px_gi ls 6) (px_gi ls 7) (px_gi ls 8) (px_gi ls 9) (px_gi ls 10) (px_gi ls 11) h))]) (mo_chance_orc_ok) pX_ok_RX11 mo_chance_code_ok (px_k1 (px_ko (ts := [61, 1, 0, 1, 0, 1, 1, 1, 1, 1, 1, 1, 0, 0, 0]) (ss := []) fun ls st h q e => ih _ _ _ _ _ _ _ _ _ _ _ e) (px_k1 (px_ko (ts := [61, 1, 0, 1, 0, 1, 1, 1, 1, 1, 1, 1, 0, 0, 0]) (ss := []) fun ls st h q e => mo_chance_196_ok hr89 _ _ _ _ _ _ _ _ _ _ _ e) px_k0)) 139 96 _ _ h q e
set_option maxRecDepth 200000 in
theorem mo_chance_89_ok {d : Nat} : ∀ (n : Nat) (x1 : Int32) (x3 : Int32) (x5 : Int32) (x6 : Int32) (x7 : Int32) (x8 : Int32) (x9 : Int32) (x10 : Int32) (x11 : Int32) (h : pH) (q : Int32 × pH), mo_chance_89 n x1 x3 x5 x6 x7 x8 x9 x10 x11 h = some q → px_G (d + 105 + 1) (pX_RX11, prog_13_method_89_code, 15, (some .int)) 89 [some (.inr (.inl 51)), some (.inl x1), none, some (.inl x3), none, some (.inl x5), some (.inl x6), some (.inl x7), some (.inl x8), some (.inl x9), some (.inl x10), some (.inl x11), none, none, none] [] h q := by
  intro n
  induction n with
  | zero =>
    intro x1 x3 x5 x6 x7 x8 x9 x10 x11 h q e
    cases e
  | succ n ih =>
    intro x1 x3 x5 x6 x7 x8 x9 x10 x11 h q e
    exact px_blk_ok (d := d + 105) (M := (pX_RX11, prog_13_method_89_code, 15, (some .int))) (C := mo_chance_orc) (code := mo_chance_code) (ld := [96]) (kl := [(96, fun ls st h => px_if (px_fit [61, 1, 0, 1, 0, 1, 1, 1, 1, 1, 1, 1, 0, 0, 0] ls && px_fits [] st) (mo_chance_96 (mo_chance_89 n) px_F (px_gi ls 1) (px_gi ls 3) (px_gi ls 5) (px_gi ls 6) (px_gi ls 7) (px_gi ls 8) (px_gi ls 9) (px_gi ls 10) (px_gi ls 11) h))]) (mo_chance_orc_ok) pX_ok_RX11 mo_chance_code_ok (px_k1 (px_ko (ts := [61, 1, 0, 1, 0, 1, 1, 1, 1, 1, 1, 1, 0, 0, 0]) (ss := []) fun ls st h q e => mo_chance_96_ok ih _ _ _ _ _ _ _ _ _ _ _ _ e) px_k0) 139 89 _ _ h q e
set_option maxRecDepth 200000 in
theorem mo_chance_29_ok {d : Nat} : ∀ (x1 : Int32) (x2 : Int32) (x3 : Int32) (s0 : Int32) (s1 : Int32) (h : pH) (q : Int32 × pH), mo_chance_29 x1 x2 x3 s0 s1 h = some q → px_G (d + 105 + 1) (pX_RX11, prog_13_method_89_code, 15, (some .int)) 29 [some (.inr (.inl 51)), some (.inl x1), some (.inl x2), some (.inl x3), none, none, none, none, none, none, none, none, none, none, none] [.inl s0, .inl s1, .inr (.inl 51)] h q := by
  intro x1 x2 x3 s0 s1 h q e
  exact px_blk_ok (d := d + 105) (M := (pX_RX11, prog_13_method_89_code, 15, (some .int))) (C := mo_chance_orc) (code := mo_chance_code) (ld := [89]) (kl := [(89, fun ls st h => px_if (px_fit [61, 1, 0, 1, 0, 1, 1, 1, 1, 1, 1, 1, 0, 0, 0] ls && px_fits [] st) (mo_chance_89 px_F (px_gi ls 1) (px_gi ls 3) (px_gi ls 5) (px_gi ls 6) (px_gi ls 7) (px_gi ls 8) (px_gi ls 9) (px_gi ls 10) (px_gi ls 11) h))]) (mo_chance_orc_ok) pX_ok_RX11 mo_chance_code_ok (px_k1 (px_ko (ts := [61, 1, 0, 1, 0, 1, 1, 1, 1, 1, 1, 1, 0, 0, 0]) (ss := []) fun ls st h q e => mo_chance_89_ok _ _ _ _ _ _ _ _ _ _ _ _ e) px_k0) 139 29 _ _ h q e
set_option maxRecDepth 200000 in
theorem mo_chance_ok {d : Nat} {x1 : Int32} {x2 : Int32} {h : pH} {q : Int32 × pH} (e : mo_chance x1 x2 h = some q) : px_Con (d + 106) 261 [.inr (.inl 51), .inl x1, .inl x2] h q :=
  px_con (X := pX_RX11) (b := prog_13_method_89_code) (nL := 15) (rt := (some .int)) rfl rfl (Nat.le_of_ble_eq_true rfl) rfl (px_blk_ok (d := d + 105) (M := (pX_RX11, prog_13_method_89_code, 15, (some .int))) (C := mo_chance_orc) (code := mo_chance_code) (ld := [29]) (kl := [(29, fun ls st h => px_if (px_fit [61, 1, 1, 1, 0, 0, 0, 0, 0, 0, 0, 0, 0, 0, 0] ls && px_fits [1, 1, 61] st) (mo_chance_29 (px_gi ls 1) (px_gi ls 2) (px_gi ls 3) (px_si st 0) (px_si st 1) h))]) (mo_chance_orc_ok) pX_ok_RX11 mo_chance_code_ok (px_k1 (px_ko (ts := [61, 1, 1, 1, 0, 0, 0, 0, 0, 0, 0, 0, 0, 0, 0]) (ss := [1, 1, 61]) fun ls st h q e => mo_chance_29_ok _ _ _ _ _ _ _ e) px_k0) 139 0 _ _ _ q e)
noncomputable def mo_goParty_137 (rc : pC) (r61 : Int32 → Int32 → Int32 → Int32 → Int32 → pH → pR) (x1 : Int32) (x2 : Int32) (x3 : Int32) (x4 : Int32) (x5 : Int32) (h : pH) : pR :=
  r61 x1 x2 x3 x4 (x5 + px_c 1) h
noncomputable def mo_goParty_61 (rc : pC) : Nat → Int32 → Int32 → Int32 → Int32 → Int32 → pH → pR
  | 0, _, _, _, _, _, _ => none
  | n + 1, x1, x2, x3, x4, x5, h =>
    if (h 51 4) ≤ x5 then
      some (0, h)
    else
      px_bind (mo_has x1 x5 h) fun z1 h2 =>
      if z1 = 0 then
        mo_goParty_137 rc (mo_goParty_61 rc n) x1 x2 x3 x4 x5 h2
      else
        px_if (px_ok 1 77 (((px_c 6) * x4) + x5) || px_ok 3 77 (((px_c 6) * x4) + x5)) <|
        if (h2 77 (((px_c 6) * x4) + x5).toNatClampNeg) = 0 then
          mo_goParty_137 rc (mo_goParty_61 rc n) x1 x2 x3 x4 x5 h2
        else
          px_if (px_ok 0 75 x4) <|
          let h3 := px_w h2 75 x4.toNatClampNeg x5
          px_if (px_ok 0 75 x5) <|
          let h4 := px_w h3 75 x5.toNatClampNeg x4
          px_bind (rc 262 [.inr (.inl 51), .inl (x1 &&& ((((px_c 1) <<< (x4 &&& 31)) ||| ((px_c 1) <<< (x5 &&& 31))) ^^^ (px_c (-1)))), .inl (x2 + (px_c 1)), .inl x3] h4) fun _ h6 =>
          mo_goParty_137 rc (mo_goParty_61 rc n) x1 x2 x3 x4 x5 h6
noncomputable def mo_goParty_21 (rc : pC) : Nat → Int32 → pH → pR
  | 0, _, _ => none
  | n + 1, x4, h =>
    if (h 51 4) ≤ x4 then
      some (0, h)
    else
      px_if (px_ok 0 75 x4) <|
      px_if (px_ok 0 76 x4) <|
      let h1 := px_w h 76 x4.toNatClampNeg (h 75 x4.toNatClampNeg)
      mo_goParty_21 rc n (x4 + px_c 1) h1
noncomputable def mo_goParty (rc : pC) (x1 : Int32) (x2 : Int32) (x3 : Int32) (h : pH) : pR :=
  if x2 < (h 51 56) then
    if x1 = 0 then
      let h1 := px_w h 51 56 x2
      mo_goParty_21 rc px_F (px_c 0) h1
    else
      px_bind (jn_numberOfTrailingZeros x1 h) fun z2 h3 =>
      mo_goParty_61 rc px_F x1 x2 x3 z2 z2 h3
  else
    some (0, h)
def mo_goParty_code : pCode := [(0, .iload_n 2, 1), (1, .aload_n 0, 1), (2, .getfield 436, 3), (5, .if_icmp .lt (4), 3), (8, .return_, 1), (9, .iload_n 1, 1), (10, .ifCond .ne (41), 3), (13, .aload_n 0, 1), (14, .iload_n 2, 1), (15, .putfield 436, 3), (18, .iconst 0, 1), (19, .istore 4, 2), (21, .iload 4, 2), (23, .aload_n 0, 1), (24, .getfield 112, 3), (27, .if_icmp .ge (23), 3), (30, .aload_n 0, 1), (31, .getfield 87, 3), (34, .iload 4, 2), (36, .aload_n 0, 1), (37, .getfield 84, 3), (40, .iload 4, 2), (42, .iaload, 1), (43, .iastore, 1), (44, .iinc 4 (1), 3), (47, .goto (-26), 3), (50, .return_, 1), (51, .iload_n 1, 1), (52, .invokestatic 395, 3), (55, .istore 4, 2), (57, .iload 4, 2), (59, .istore 5, 2), (61, .iload 5, 2), (63, .aload_n 0, 1), (64, .getfield 112, 3), (67, .if_icmp .ge (76), 3), (70, .iload_n 1, 1), (71, .iload 5, 2), (73, .invokestatic 227, 3), (76, .ifCond .eq (61), 3), (79, .aload_n 0, 1), (80, .getfield 90, 3), (83, .bipush (6), 2), (85, .iload 4, 2), (87, .imul, 1), (88, .iload 5, 2), (90, .iadd, 1), (91, .baload, 1), (92, .ifCond .ne (6), 3), (95, .goto (42), 3), (98, .aload_n 0, 1), (99, .getfield 84, 3), (102, .iload 4, 2), (104, .iload 5, 2), (106, .iastore, 1), (107, .aload_n 0, 1), (108, .getfield 84, 3), (111, .iload 5, 2), (113, .iload 4, 2), (115, .iastore, 1), (116, .aload_n 0, 1), (117, .iload_n 1, 1), (118, .iconst 1, 1), (119, .iload 4, 2), (121, .ishl, 1), (122, .iconst 1, 1), (123, .iload 5, 2), (125, .ishl, 1), (126, .ior, 1), (127, .iconst (-1), 1), (128, .ixor, 1), (129, .iand, 1), (130, .iload_n 2, 1), (131, .iconst 1, 1), (132, .iadd, 1), (133, .iload_n 3, 1), (134, .invokevirtual 439, 3), (137, .iinc 5 (1), 3), (140, .goto (-79), 3), (143, .return_, 1)]
set_option maxRecDepth 200000 in
theorem mo_goParty_code_ok : px_code prog_13_method_90_code mo_goParty_code = true := by decide +kernel
noncomputable def mo_goParty_orc (rc : pC) : pC := fun id a h => if id ∈ ([262] : List Nat) then rc id a h else px_orc [(176, fun a h => match a with
    | [.inl v0, .inl v1] => mo_has v0 v1 h
    | _ => none), (280, fun a h => match a with
    | [.inl v0] => jn_numberOfTrailingZeros v0 h
    | _ => none)] id a h
theorem mo_goParty_orc_ok {d : Nat} {rc : pC} (hrc : px_Or (d + 1) rc) : px_Or (d + 1) (mo_goParty_orc rc) := by
  intro id a h q e
  unfold mo_goParty_orc at e
  split at e
  · exact hrc id a h q e
  · revert e
    revert q
    revert h
    revert a
    revert id
    show ∀ id, ¬ _ → ∀ a h q, _ → _
    intro id _
    revert id
    exact px_orc_ok (by
      refine px_o1 (fun a h q e => by
        dsimp only at e
        split at e
        · exact mo_has_ok (d := d + 0) e
        · cases e) ?_
      refine px_o1 (fun a h q e => by
        dsimp only at e
        split at e
        · exact jn_numberOfTrailingZeros_ok (d := d + 0) e
        · cases e) ?_
      exact px_o0)
set_option maxRecDepth 200000 in
theorem mo_goParty_137_ok {d : Nat} {rc : pC} (hrc : px_Or (d + 1) rc) {r61 : Int32 → Int32 → Int32 → Int32 → Int32 → pH → pR} (hr61 : ∀ (x1 : Int32) (x2 : Int32) (x3 : Int32) (x4 : Int32) (x5 : Int32) (h : pH) (q : Int32 × pH), r61 x1 x2 x3 x4 x5 h = some q → px_G (d + 1 + 1) (pX_RX11, prog_13_method_90_code, 6, none) 61 [some (.inr (.inl 51)), some (.inl x1), some (.inl x2), some (.inl x3), some (.inl x4), some (.inl x5)] [] h q) : ∀ (x1 : Int32) (x2 : Int32) (x3 : Int32) (x4 : Int32) (x5 : Int32) (h : pH) (q : Int32 × pH), mo_goParty_137 rc r61 x1 x2 x3 x4 x5 h = some q → px_G (d + 1 + 1) (pX_RX11, prog_13_method_90_code, 6, none) 137 [some (.inr (.inl 51)), some (.inl x1), some (.inl x2), some (.inl x3), some (.inl x4), some (.inl x5)] [] h q := by
  intro x1 x2 x3 x4 x5 h q e
  exact px_blk_ok (d := d + 1) (M := (pX_RX11, prog_13_method_90_code, 6, none)) (C := mo_goParty_orc rc) (code := mo_goParty_code) (ld := [61]) (kl := [(61, fun ls st h => px_if (px_fit [61, 1, 1, 1, 1, 1] ls && px_fits [] st) (r61 (px_gi ls 1) (px_gi ls 2) (px_gi ls 3) (px_gi ls 4) (px_gi ls 5) h))]) (mo_goParty_orc_ok hrc) pX_ok_RX11 mo_goParty_code_ok (px_k1 (px_ko (ts := [61, 1, 1, 1, 1, 1]) (ss := []) fun ls st h q e => hr61 _ _ _ _ _ _ _ e) px_k0) 85 137 _ _ h q e
set_option maxRecDepth 200000 in
theorem mo_goParty_61_ok {d : Nat} {rc : pC} (hrc : px_Or (d + 1) rc) : ∀ (n : Nat) (x1 : Int32) (x2 : Int32) (x3 : Int32) (x4 : Int32) (x5 : Int32) (h : pH) (q : Int32 × pH), mo_goParty_61 rc n x1 x2 x3 x4 x5 h = some q → px_G (d + 1 + 1) (pX_RX11, prog_13_method_90_code, 6, none) 61 [some (.inr (.inl 51)), some (.inl x1), some (.inl x2), some (.inl x3), some (.inl x4), some (.inl x5)] [] h q := by
  intro n
  induction n with
  | zero =>
    intro x1 x2 x3 x4 x5 h q e
    cases e
  | succ n ih =>
    intro x1 x2 x3 x4 x5 h q e
    exact px_blk_ok (d := d + 1) (M := (pX_RX11, prog_13_method_90_code, 6, none)) (C := mo_goParty_orc rc) (code := mo_goParty_code) (ld := [137]) (kl := [(137, fun ls st h => px_if (px_fit [61, 1, 1, 1, 1, 1] ls && px_fits [] st) (mo_goParty_137 rc (mo_goParty_61 rc n) (px_gi ls 1) (px_gi ls 2) (px_gi ls 3) (px_gi ls 4) (px_gi ls 5) h))]) (mo_goParty_orc_ok hrc) pX_ok_RX11 mo_goParty_code_ok (px_k1 (px_ko (ts := [61, 1, 1, 1, 1, 1]) (ss := []) fun ls st h q e => mo_goParty_137_ok hrc ih _ _ _ _ _ _ _ e) px_k0) 85 61 _ _ h q e
set_option maxRecDepth 200000 in
theorem mo_goParty_21_ok {d : Nat} {rc : pC} (hrc : px_Or (d + 1) rc) : ∀ (n : Nat) (x4 : Int32) (h : pH) (q : Int32 × pH), mo_goParty_21 rc n x4 h = some q → px_G (d + 1 + 1) (pX_RX11, prog_13_method_90_code, 6, none) 21 [some (.inr (.inl 51)), none, none, none, some (.inl x4), none] [] h q := by
  intro n
  induction n with
  | zero =>
    intro x4 h q e
    cases e
  | succ n ih =>
    intro x4 h q e
    exact px_blk_ok (d := d + 1) (M := (pX_RX11, prog_13_method_90_code, 6, none)) (C := mo_goParty_orc rc) (code := mo_goParty_code) (ld := [21]) (kl := [(21, fun ls st h => px_if (px_fit [61, 0, 0, 0, 1, 0] ls && px_fits [] st) (mo_goParty_21 rc n (px_gi ls 4) h))]) (mo_goParty_orc_ok hrc) pX_ok_RX11 mo_goParty_code_ok (px_k1 (px_ko (ts := [61, 0, 0, 0, 1, 0]) (ss := []) fun ls st h q e => ih _ _ _ e) px_k0) 85 21 _ _ h q e
set_option maxRecDepth 200000 in
theorem mo_goParty_ok {d : Nat} {rc : pC} (hrc : px_Or (d + 1) rc) {x1 : Int32} {x2 : Int32} {x3 : Int32} {h : pH} {q : Int32 × pH} (e : mo_goParty rc x1 x2 x3 h = some q) : px_Con (d + 2) 262 [.inr (.inl 51), .inl x1, .inl x2, .inl x3] h q :=
  px_con (X := pX_RX11) (b := prog_13_method_90_code) (nL := 6) (rt := none) rfl rfl (Nat.le_of_ble_eq_true rfl) rfl (px_blk_ok (d := d + 1) (M := (pX_RX11, prog_13_method_90_code, 6, none)) (C := mo_goParty_orc rc) (code := mo_goParty_code) (ld := [21, 61]) (kl := [(21, fun ls st h => px_if (px_fit [61, 0, 0, 0, 1, 0] ls && px_fits [] st) (mo_goParty_21 rc px_F (px_gi ls 4) h)), (61, fun ls st h => px_if (px_fit [61, 1, 1, 1, 1, 1] ls && px_fits [] st) (mo_goParty_61 rc px_F (px_gi ls 1) (px_gi ls 2) (px_gi ls 3) (px_gi ls 4) (px_gi ls 5) h))]) (mo_goParty_orc_ok hrc) pX_ok_RX11 mo_goParty_code_ok (px_k1 (px_ko (ts := [61, 0, 0, 0, 1, 0]) (ss := []) fun ls st h q e => mo_goParty_21_ok hrc _ _ _ _ e) (px_k1 (px_ko (ts := [61, 1, 1, 1, 1, 1]) (ss := []) fun ls st h q e => mo_goParty_61_ok hrc _ _ _ _ _ _ _ _ e) px_k0)) 85 0 _ _ _ q e)
noncomputable def mo_goPartyG : Nat → pC
  | 0 => fun _ _ _ => none
  | n + 1 => px_orc [(262, fun a h => match a with
      | [.inr (.inl 51), .inl v1, .inl v2, .inl v3] => mo_goParty (mo_goPartyG n) v1 v2 v3 h
      | _ => none)]
theorem mo_goPartyG_ok {d : Nat} : ∀ n : Nat, px_Or (d + n + 1) (mo_goPartyG n) := by
  intro n
  induction n with
  | zero => intro id a h q e; cases e
  | succ n ih =>
    show px_Or (d + n + 1 + 1) _
    refine px_orc_ok ?_
    refine px_o1 (fun a h q e => by
      dsimp only at e
      split at e
      · exact mo_goParty_ok (d := d + n) ih e
      · cases e) ?_
    exact px_o0
noncomputable def mo_goPartyT (x1 : Int32) (x2 : Int32) (x3 : Int32) (h : pH) : pR := mo_goPartyG 10 262 [.inr (.inl 51), .inl x1, .inl x2, .inl x3] h
theorem mo_goPartyT_ok {d : Nat} {x1 : Int32} {x2 : Int32} {x3 : Int32} {h : pH} {q : Int32 × pH} (e : mo_goPartyT x1 x2 x3 h = some q) : px_Con (d + 11) 262 [.inr (.inl 51), .inl x1, .inl x2, .inl x3] h q := mo_goPartyG_ok (d := d) 10 262 _ h q e
/-! WordsUnsaidModel.party(I)I -/
noncomputable def mo_party_50 (h : pH) : pR :=
  some (px_c (-1), h)
noncomputable def mo_party_204 (r178 : Int32 → Int32 → pH → pR) (x1 : Int32) (x3 : Int32) (h : pH) : pR :=
  r178 x1 (x3 + px_c 1) h
noncomputable def mo_party_178 : Nat → Int32 → Int32 → pH → pR
  | 0, _, _, _ => none
  | n + 1, x1, x3, h =>
    if (h 51 4) ≤ x3 then
      some (h 51 56, h)
    else
      px_bind (mo_has x1 x3 h) fun z1 h2 =>
      if z1 = 0 then
        mo_party_204 (mo_party_178 n) x1 x3 h2
      else
        px_if (px_ok 0 76 x3) <|
        px_bind (mo_tell (h2 76 x3.toNatClampNeg) h2) fun _ h4 =>
        mo_party_204 (mo_party_178 n) x1 x3 h4
noncomputable def mo_party_131 (r54 : Int32 → Int32 → Int32 → pH → pR) (r65 : Int32 → Int32 → Int32 → Int32 → pH → pR) (x1 : Int32) (x2 : Int32) (x3 : Int32) (x4 : Int32) (s0 : Int32) (s1 : Int32) (h : pH) : pR :=
  px_if (px_ok 3 77 s1) <|
  let h1 := px_w h 77 s1.toNatClampNeg (px_nz s0)
  r65 x1 x2 x3 (x4 + px_c 1) h1
noncomputable def mo_party_130 (r54 : Int32 → Int32 → Int32 → pH → pR) (r65 : Int32 → Int32 → Int32 → Int32 → pH → pR) (x1 : Int32) (x2 : Int32) (x3 : Int32) (x4 : Int32) (s0 : Int32) (h : pH) : pR :=
  mo_party_131 r54 r65 x1 x2 x3 x4 (px_c 0) s0 h
noncomputable def mo_party_65 (r54 : Int32 → Int32 → Int32 → pH → pR) : Nat → Int32 → Int32 → Int32 → Int32 → pH → pR
  | 0, _, _, _, _, _ => none
  | n + 1, x1, x2, x3, x4, h =>
    if (h 51 4) ≤ x4 then
      r54 x1 x2 (x3 + px_c 1) h
    else
      px_bind (mo_has x1 x3 h) fun z1 h2 =>
      if z1 = 0 then
        mo_party_130 r54 (mo_party_65 r54 n) x1 x2 x3 x4 (((px_c 6) * x3) + x4) h2
      else
        px_bind (mo_has x1 x4 h2) fun z3 h4 =>
        if z3 = 0 then
          mo_party_130 r54 (mo_party_65 r54 n) x1 x2 x3 x4 (((px_c 6) * x3) + x4) h4
        else
          px_bind (mo_leastRow 52 (((px_c 1) <<< (x3 &&& 31)) ||| ((px_c 1) <<< (x4 &&& 31))) x2 ((px_c 1) - x2) (px_c 3) h4) fun z5 h6 =>
          if z5 ≤ 0 then
            mo_party_130 r54 (mo_party_65 r54 n) x1 x2 x3 x4 (((px_c 6) * x3) + x4) h6
          else
            mo_party_131 r54 (mo_party_65 r54 n) x1 x2 x3 x4 (px_c 1) (((px_c 6) * x3) + x4) h6
noncomputable def mo_party_54 : Nat → Int32 → Int32 → Int32 → pH → pR
  | 0, _, _, _, _ => none
  | n + 1, x1, x2, x3, h =>
    if (h 51 4) ≤ x3 then
      let h1 := px_w h 51 56 (px_k 1000000)
      px_bind (mo_goPartyT x1 (px_c 0) x1 h1) fun _ h3 =>
      if (h3 51 56) = (px_k 1000000) then
        some (px_c (-2), h3)
      else
        let h4 := px_w h3 51 13 (px_c 0)
        mo_party_178 px_F x1 (px_c 0) h4
    else
      mo_party_65 (mo_party_54 n) px_F x1 x2 x3 x3 h
noncomputable def mo_party (x1 : Int32) (h : pH) : pR :=
  let h1 := px_w h 51 14 (px_c 0)
  px_bind (mo_in x1 (px_c 1) (((px_c 1) <<< ((h1 51 4) &&& 31)) - (px_c 1)) h1) fun z2 h3 =>
  if z2 = 0 then
    some (px_c (-1), h3)
  else
    px_bind (jn_numberOfTrailingZeros x1 h3) fun z4 h5 =>
    px_if (px_ok 0 52 z4) <|
    let y2_6 := h5 52 z4.toNatClampNeg
    if (px_c 1) < y2_6 then
      mo_party_50 h5
    else
      px_bind (mo_peopleAt y2_6 h5) fun z7 h8 =>
      if (x1 &&& (z7 ^^^ (px_c (-1)))) = 0 then
        mo_party_54 px_F x1 y2_6 (px_c 0) h8
      else
        mo_party_50 h8
def mo_party_code : pCode := [(0, .aload_n 0, 1), (1, .iconst 0, 1), (2, .putfield 106, 3), (5, .iload_n 1, 1), (6, .iconst 1, 1), (7, .iconst 1, 1), (8, .aload_n 0, 1), (9, .getfield 112, 3), (12, .ishl, 1), (13, .iconst 1, 1), (14, .isub, 1), (15, .invokestatic 115, 3), (18, .ifCond .ne (5), 3), (21, .iconst (-1), 1), (22, .ireturn, 1), (23, .aload_n 0, 1), (24, .getfield 9, 3), (27, .iload_n 1, 1), (28, .invokestatic 395, 3), (31, .iaload, 1), (32, .istore_n 2, 1), (33, .iload_n 2, 1), (34, .iconst 1, 1), (35, .if_icmp .gt (15), 3), (38, .iload_n 1, 1), (39, .aload_n 0, 1), (40, .iload_n 2, 1), (41, .invokevirtual 334, 3), (44, .iconst (-1), 1), (45, .ixor, 1), (46, .iand, 1), (47, .ifCond .eq (5), 3), (50, .iconst (-1), 1), (51, .ireturn, 1), (52, .iconst 0, 1), (53, .istore_n 3, 1), (54, .iload_n 3, 1), (55, .aload_n 0, 1), (56, .getfield 112, 3), (59, .if_icmp .ge (85), 3), (62, .iload_n 3, 1), (63, .istore 4, 2), (65, .iload 4, 2), (67, .aload_n 0, 1), (68, .getfield 112, 3), (71, .if_icmp .ge (67), 3), (74, .aload_n 0, 1), (75, .getfield 90, 3), (78, .bipush (6), 2), (80, .iload_n 3, 1), (81, .imul, 1), (82, .iload 4, 2), (84, .iadd, 1), (85, .iload_n 1, 1), (86, .iload_n 3, 1), (87, .invokestatic 227, 3), (90, .ifCond .eq (40), 3), (93, .iload_n 1, 1), (94, .iload 4, 2), (96, .invokestatic 227, 3), (99, .ifCond .eq (31), 3), (102, .aload_n 0, 1), (103, .aload_n 0, 1), (104, .getfield 9, 3), (107, .iconst 1, 1), (108, .iload_n 3, 1), (109, .ishl, 1), (110, .iconst 1, 1), (111, .iload 4, 2), (113, .ishl, 1), (114, .ior, 1), (115, .iload_n 2, 1), (116, .iconst 1, 1), (117, .iload_n 2, 1), (118, .isub, 1), (119, .iconst 3, 1), (120, .invokevirtual 417, 3), (123, .ifCond .le (7), 3), (126, .iconst 1, 1), (127, .goto (4), 3), (130, .iconst 0, 1), (131, .bastore, 1), (132, .iinc 4 (1), 3), (135, .goto (-70), 3), (138, .iinc 3 (1), 3), (141, .goto (-87), 3), (144, .aload_n 0, 1), (145, .ldc_w 291, 3), (148, .putfield 436, 3), (151, .aload_n 0, 1), (152, .iload_n 1, 1), (153, .iconst 0, 1), (154, .iload_n 1, 1), (155, .invokevirtual 439, 3), (158, .aload_n 0, 1), (159, .getfield 436, 3), (162, .ldc_w 291, 3), (165, .if_icmp .ne (6), 3), (168, .bipush (-2), 2), (170, .ireturn, 1), (171, .aload_n 0, 1), (172, .iconst 0, 1), (173, .putfield 109, 3), (176, .iconst 0, 1), (177, .istore_n 3, 1), (178, .iload_n 3, 1), (179, .aload_n 0, 1), (180, .getfield 112, 3), (183, .if_icmp .ge (27), 3), (186, .iload_n 1, 1), (187, .iload_n 3, 1), (188, .invokestatic 227, 3), (191, .ifCond .eq (13), 3), (194, .aload_n 0, 1), (195, .aload_n 0, 1), (196, .getfield 87, 3), (199, .iload_n 3, 1), (200, .iaload, 1), (201, .invokevirtual 312, 3), (204, .iinc 3 (1), 3), (207, .goto (-29), 3), (210, .aload_n 0, 1), (211, .getfield 436, 3), (214, .ireturn, 1)]
set_option maxRecDepth 200000 in
theorem mo_party_code_ok : px_code prog_13_method_91_code mo_party_code = true := by decide +kernel
noncomputable def mo_party_orc : pC := px_orc [(176, fun a h => match a with
    | [.inl v0, .inl v1] => mo_has v0 v1 h
    | _ => none), (178, fun a h => match a with
    | [.inr (.inl 51), .inl v1] => mo_tell v1 h
    | _ => none), (253, fun a h => match a with
    | [.inr (.inl 51), .inr (.inl v1), .inl v2, .inl v3, .inl v4, .inl v5] => mo_leastRow v1 v2 v3 v4 v5 h
    | _ => none), (262, fun a h => match a with
    | [.inr (.inl 51), .inl v1, .inl v2, .inl v3] => mo_goPartyT v1 v2 v3 h
    | _ => none), (175, fun a h => match a with
    | [.inl v0, .inl v1, .inl v2] => mo_in v0 v1 v2 h
    | _ => none), (280, fun a h => match a with
    | [.inl v0] => jn_numberOfTrailingZeros v0 h
    | _ => none), (207, fun a h => match a with
    | [.inr (.inl 51), .inl v1] => mo_peopleAt v1 h
    | _ => none)]
theorem mo_party_orc_ok {d : Nat} : px_Or (d + 119) (mo_party_orc) := px_orc_ok (by
  refine px_o1 (fun a h q e => by
    dsimp only at e
    split at e
    · exact mo_has_ok (d := d + 118) e
    · cases e) ?_
  refine px_o1 (fun a h q e => by
    dsimp only at e
    split at e
    · exact mo_tell_ok (d := d + 118) e
    · cases e) ?_
  refine px_o1 (fun a h q e => by
    dsimp only at e
    split at e
    · exact mo_leastRow_ok (d := d + 0) e
    · cases e) ?_
  refine px_o1 (fun a h q e => by
    dsimp only at e
    split at e
    · exact mo_goPartyT_ok (d := d + 108) e
    · cases e) ?_
  refine px_o1 (fun a h q e => by
    dsimp only at e
    split at e
    · exact mo_in_ok (d := d + 118) e
    · cases e) ?_
  refine px_o1 (fun a h q e => by
    dsimp only at e
    split at e
    · exact jn_numberOfTrailingZeros_ok (d := d + 118) e
    · cases e) ?_
  refine px_o1 (fun a h q e => by
    dsimp only at e
    split at e
    · exact mo_peopleAt_ok (d := d + 118) e
    · cases e) ?_
  exact px_o0)
set_option maxRecDepth 200000 in
theorem mo_party_50_ok {d : Nat} : ∀ (h : pH) (q : Int32 × pH), mo_party_50 h = some q → px_G (d + 119 + 1) (pX_RX11, prog_13_method_91_code, 5, (some .int)) 50 [none, none, none, none, none] [] h q := by
  intro h q e
  exact px_blk_ok (d := d + 119) (M := (pX_RX11, prog_13_method_91_code, 5, (some .int))) (C := mo_party_orc) (code := mo_party_code) (ld := []) (kl := []) (mo_party_orc_ok) pX_ok_RX11 mo_party_code_ok (px_k0) 129 50 _ _ h q e
set_option maxRecDepth 200000 in
theorem mo_party_204_ok {d : Nat} {r178 : Int32 → Int32 → pH → pR} (hr178 : ∀ (x1 : Int32) (x3 : Int32) (h : pH) (q : Int32 × pH), r178 x1 x3 h = some q → px_G (d + 119 + 1) (pX_RX11, prog_13_method_91_code, 5, (some .int)) 178 [some (.inr (.inl 51)), some (.inl x1), none, some (.inl x3), none] [] h q) : ∀ (x1 : Int32) (x3 : Int32) (h : pH) (q : Int32 × pH), mo_party_204 r178 x1 x3 h = some q → px_G (d + 119 + 1) (pX_RX11, prog_13_method_91_code, 5, (some .int)) 204 [some (.inr (.inl 51)), some (.inl x1), none, some (.inl x3), none] [] h q := by
  intro x1 x3 h q e
  exact px_blk_ok (d := d + 119) (M := (pX_RX11, prog_13_method_91_code, 5, (some .int))) (C := mo_party_orc) (code := mo_party_code) (ld := [178]) (kl := [(178, fun ls st h => px_if (px_fit [61, 1, 0, 1, 0] ls && px_fits [] st) (r178 (px_gi ls 1) (px_gi ls 3) h))]) (mo_party_orc_ok) pX_ok_RX11 mo_party_code_ok (px_k1 (px_ko (ts := [61, 1, 0, 1, 0]) (ss := []) fun ls st h q e => hr178 _ _ _ _ e) px_k0) 129 204 _ _ h q e
set_option maxRecDepth 200000 in
theorem mo_party_178_ok {d : Nat} : ∀ (n : Nat) (x1 : Int32) (x3 : Int32) (h : pH) (q : Int32 × pH), mo_party_178 n x1 x3 h = some q → px_G (d + 119 + 1) (pX_RX11, prog_13_method_91_code, 5, (some .int)) 178 [some (.inr (.inl 51)), some (.inl x1), none, some (.inl x3), none] [] h q := by
  intro n
  induction n with
  | zero =>
    intro x1 x3 h q e
    cases e
  | succ n ih =>
    intro x1 x3 h q e
    exact px_blk_ok (d := d + 119) (M := (pX_RX11, prog_13_method_91_code, 5, (some .int))) (C := mo_party_orc) (code := mo_party_code) (ld := [204]) (kl := [(204, fun ls st h => px_if (px_fit [61, 1, 0, 1, 0] ls && px_fits [] st) (mo_party_204 (mo_party_178 n) (px_gi ls 1) (px_gi ls 3) h))]) (mo_party_orc_ok) pX_ok_RX11 mo_party_code_ok (px_k1 (px_ko (ts := [61, 1, 0, 1, 0]) (ss := []) fun ls st h q e => mo_party_204_ok ih _ _ _ _ e) px_k0) 129 178 _ _ h q e
set_option maxRecDepth 200000 in
theorem mo_party_131_ok {d : Nat} {r54 : Int32 → Int32 → Int32 → pH → pR} (hr54 : ∀ (x1 : Int32) (x2 : Int32) (x3 : Int32) (h : pH) (q : Int32 × pH), r54 x1 x2 x3 h = some q → px_G (d + 119 + 1) (pX_RX11, prog_13_method_91_code, 5, (some .int)) 54 [some (.inr (.inl 51)), some (.inl x1), some (.inl x2), some (.inl x3), none] [] h q) {r65 : Int32 → Int32 → Int32 → Int32 → pH → pR} (hr65 : ∀ (x1 : Int32) (x2 : Int32) (x3 : Int32) (x4 : Int32) (h : pH) (q : Int32 × pH), r65 x1 x2 x3 x4 h = some q → px_G (d + 119 + 1) (pX_RX11, prog_13_method_91_code, 5, (some .int)) 65 [some (.inr (.inl 51)), some (.inl x1), some (.inl x2), some (.inl x3), some (.inl x4)] [] h q) : ∀ (x1 : Int32) (x2 : Int32) (x3 : Int32) (x4 : Int32) (s0 : Int32) (s1 : Int32) (h : pH) (q : Int32 × pH), mo_party_131 r54 r65 x1 x2 x3 x4 s0 s1 h = some q → px_G (d + 119 + 1) (pX_RX11, prog_13_method_91_code, 5, (some .int)) 131 [some (.inr (.inl 51)), some (.inl x1), some (.inl x2), some (.inl x3), some (.inl x4)] [.inl s0, .inl s1, .inr (.inl 77)] h q := by
  intro x1 x2 x3 x4 s0 s1 h q e
  exact px_blk_ok (d := d + 119) (M := (pX_RX11, prog_13_method_91_code, 5, (some .int))) (C := mo_party_orc) (code := mo_party_code) (ld := [65]) (kl := [(65, fun ls st h => px_if (px_fit [61, 1, 1, 1, 1] ls && px_fits [] st) (r65 (px_gi ls 1) (px_gi ls 2) (px_gi ls 3) (px_gi ls 4) h))]) (mo_party_orc_ok) pX_ok_RX11 mo_party_code_ok (px_k1 (px_ko (ts := [61, 1, 1, 1, 1]) (ss := []) fun ls st h q e => hr65 _ _ _ _ _ _ e) px_k0) 129 131 _ _ h q e
set_option maxRecDepth 200000 in
theorem mo_party_130_ok {d : Nat} {r54 : Int32 → Int32 → Int32 → pH → pR} (hr54 : ∀ (x1 : Int32) (x2 : Int32) (x3 : Int32) (h : pH) (q : Int32 × pH), r54 x1 x2 x3 h = some q → px_G (d + 119 + 1) (pX_RX11, prog_13_method_91_code, 5, (some .int)) 54 [some (.inr (.inl 51)), some (.inl x1), some (.inl x2), some (.inl x3), none] [] h q) {r65 : Int32 → Int32 → Int32 → Int32 → pH → pR} (hr65 : ∀ (x1 : Int32) (x2 : Int32) (x3 : Int32) (x4 : Int32) (h : pH) (q : Int32 × pH), r65 x1 x2 x3 x4 h = some q → px_G (d + 119 + 1) (pX_RX11, prog_13_method_91_code, 5, (some .int)) 65 [some (.inr (.inl 51)), some (.inl x1), some (.inl x2), some (.inl x3), some (.inl x4)] [] h q) : ∀ (x1 : Int32) (x2 : Int32) (x3 : Int32) (x4 : Int32) (s0 : Int32) (h : pH) (q : Int32 × pH), mo_party_130 r54 r65 x1 x2 x3 x4 s0 h = some q → px_G (d + 119 + 1) (pX_RX11, prog_13_method_91_code, 5, (some .int)) 130 [some (.inr (.inl 51)), some (.inl x1), some (.inl x2), some (.inl x3), some (.inl x4)] [.inl s0, .inr (.inl 77)] h q := by
  intro x1 x2 x3 x4 s0 h q e
  exact px_blk_ok (d := d + 119) (M := (pX_RX11, prog_13_method_91_code, 5, (some .int))) (C := mo_party_orc) (code := mo_party_code) (ld := [131]) (kl := [(131, fun ls st h => px_if (px_fit [61, 1, 1, 1, 1] ls && px_fits [1, 1, 87] st) (mo_party_131 r54 r65 (px_gi ls 1) (px_gi ls 2) (px_gi ls 3) (px_gi ls 4) (px_si st 0) (px_si st 1) h))]) (mo_party_orc_ok) pX_ok_RX11 mo_party_code_ok (px_k1 (px_ko (ts := [61, 1, 1, 1, 1]) (ss := [1, 1, 87]) fun ls st h q e => mo_party_131_ok hr54 hr65 _ _ _ _ _ _ _ _ e) px_k0) 129 130 _ _ h q e
set_option maxRecDepth 200000 in
theorem mo_party_65_ok {d : Nat} {r54 : Int32 → Int32 → Int32 → pH → pR} (hr54 : ∀ (x1 : Int32) (x2 : Int32) (x3 : Int32) (h : pH) (q : Int32 × pH), r54 x1 x2 x3 h = some q → px_G (d + 119 + 1) (pX_RX11, prog_13_method_91_code, 5, (some .int)) 54 [some (.inr (.inl 51)), some (.inl x1), some (.inl x2), some (.inl x3), none] [] h q) : ∀ (n : Nat) (x1 : Int32) (x2 : Int32) (x3 : Int32) (x4 : Int32) (h : pH) (q : Int32 × pH), mo_party_65 r54 n x1 x2 x3 x4 h = some q → px_G (d + 119 + 1) (pX_RX11, prog_13_method_91_code, 5, (some .int)) 65 [some (.inr (.inl 51)), some (.inl x1), some (.inl x2), some (.inl x3), some (.inl x4)] [] h q := by
  intro n
  induction n with
  | zero =>
    intro x1 x2 x3 x4 h q e
    cases e
  | succ n ih =>
    intro x1 x2 x3 x4 h q e
    exact px_blk_ok (d := d + 119) (M := (pX_RX11, prog_13_method_91_code, 5, (some .int))) (C := mo_party_orc) (code := mo_party_code) (ld := [54, 130, 131]) (kl := [(54, fun ls st h => px_if (px_fit [61, 1, 1, 1, 0] ls && px_fits [] st) (r54 (px_gi ls 1) (px_gi ls 2) (px_gi ls 3) h)), (130, fun ls st h => px_if (px_fit [61, 1, 1, 1, 1] ls && px_fits [1, 87] st) (mo_party_130 r54 (mo_party_65 r54 n) (px_gi ls 1) (px_gi ls 2) (px_gi ls 3) (px_gi ls 4) (px_si st 0) h)), (131, fun ls st h => px_if (px_fit [61, 1, 1, 1, 1] ls && px_fits [1, 1, 87] st) (mo_party_131 r54 (mo_party_65 r54 n) (px_gi ls 1) (px_gi ls 2) (px_gi ls 3) (px_gi ls 4) (px_si st 0) (px_si st 1) h))]) (mo_party_orc_ok) pX_ok_RX11 mo_party_code_ok (px_k1 (px_ko (ts := [61, 1, 1, 1, 0]) (ss := []) fun ls st h q e => hr54 _ _ _ _ _ e) (px_k1 (px_ko (ts := [61, 1, 1, 1, 1]) (ss := [1, 87]) fun ls st h q e => mo_party_130_ok hr54 ih _ _ _ _ _ _ _ e) (px_k1 (px_ko (ts := [61, 1, 1, 1, 1]) (ss := [1, 1, 87]) fun ls st h q e => mo_party_131_ok hr54 ih _ _ _ _ _ _ _ _ e) px_k0))) 129 65 _ _ h q e
set_option maxRecDepth 200000 in
theorem mo_party_54_ok {d : Nat} : ∀ (n : Nat) (x1 : Int32) (x2 : Int32) (x3 : Int32) (h : pH) (q : Int32 × pH), mo_party_54 n x1 x2 x3 h = some q → px_G (d + 119 + 1) (pX_RX11, prog_13_method_91_code, 5, (some .int)) 54 [some (.inr (.inl 51)), some (.inl x1), some (.inl x2), some (.inl x3), none] [] h q := by
  intro n
  induction n with
  | zero =>
    intro x1 x2 x3 h q e
    cases e
  | succ n ih =>
    intro x1 x2 x3 h q e
    exact px_blk_ok (d := d + 119) (M := (pX_RX11, prog_13_method_91_code, 5, (some .int))) (C := mo_party_orc) (code := mo_party_code) (ld := [65, 178]) (kl := [(65, fun ls st h => px_if (px_fit [61, 1, 1, 1, 1] ls && px_fits [] st) (mo_party_65 (mo_party_54 n) px_F (px_gi ls 1) (px_gi ls 2) (px_gi ls 3) (px_gi ls 4) h)), (178, fun ls st h => px_if (px_fit [61, 1, 0, 1, 0] ls && px_fits [] st) (mo_party_178 px_F (px_gi ls 1) (px_gi ls 3) h))]) (mo_party_orc_ok) pX_ok_RX11 mo_party_code_ok (px_k1 (px_ko (ts := [61, 1, 1, 1, 1]) (ss := []) fun ls st h q e => mo_party_65_ok ih _ _ _ _ _ _ _ e) (px_k1 (px_ko (ts := [61, 1, 0, 1, 0]) (ss := []) fun ls st h q e => mo_party_178_ok _ _ _ _ _ e) px_k0)) 129 54 _ _ h q e
set_option maxRecDepth 200000 in
theorem mo_party_ok {d : Nat} {x1 : Int32} {h : pH} {q : Int32 × pH} (e : mo_party x1 h = some q) : px_Con (d + 120) 263 [.inr (.inl 51), .inl x1] h q :=
  px_con (X := pX_RX11) (b := prog_13_method_91_code) (nL := 5) (rt := (some .int)) rfl rfl (Nat.le_of_ble_eq_true rfl) rfl (px_blk_ok (d := d + 119) (M := (pX_RX11, prog_13_method_91_code, 5, (some .int))) (C := mo_party_orc) (code := mo_party_code) (ld := [54, 50]) (kl := [(54, fun ls st h => px_if (px_fit [61, 1, 1, 1, 0] ls && px_fits [] st) (mo_party_54 px_F (px_gi ls 1) (px_gi ls 2) (px_gi ls 3) h)), (50, fun ls st h => px_if (px_fit [0, 0, 0, 0, 0] ls && px_fits [] st) (mo_party_50 h))]) (mo_party_orc_ok) pX_ok_RX11 mo_party_code_ok (px_k1 (px_ko (ts := [61, 1, 1, 1, 0]) (ss := []) fun ls st h q e => mo_party_54_ok _ _ _ _ _ _ e) (px_k1 (px_ko (ts := [0, 0, 0, 0, 0]) (ss := []) fun ls st h q e => mo_party_50_ok _ _ e) px_k0)) 129 0 _ _ _ q e)
/-! WordsUnsaidModel.pool(II)I -/
noncomputable def mo_pool_166 (x3 : Int32) (s0 : Int32) (h : pH) : pR :=
  px_bind (mo_tell s0 h) fun _ h2 =>
  some (x3, h2)
noncomputable def mo_pool_109 (r27 : Int32 → Int32 → Int32 → Int32 → Int32 → pH → pR) (x1 : Int32) (x2 : Int32) (x3 : Int32) (x4 : Int32) (x5 : Int32) (h : pH) : pR :=
  r27 x1 x2 x3 x4 (x5 + px_c 1) h
noncomputable def mo_pool_27 : Nat → Int32 → Int32 → Int32 → Int32 → Int32 → pH → pR
  | 0, _, _, _, _, _, _ => none
  | n + 1, x1, x2, x3, x4, x5, h =>
    if (h 51 4) ≤ x5 then
      if 0 ≤ x3 then
        px_if (px_ok 0 52 x1) <|
        px_bind (mo_leastRow 52 ((px_c 1) <<< (x1 &&& 31)) (h 52 x1.toNatClampNeg) x2 (px_c 3) h) fun z1 h2 =>
        let h3 := px_w h2 51 13 (px_c 0)
        px_bind (mo_tell x4 h3) fun _ h5 =>
        if z1 = 0 then
          mo_pool_166 x3 (px_c (-1)) h5
        else
          mo_pool_166 x3 z1 h5
      else
        some (px_c (-2), h)
    else
      if x5 = x1 then
        mo_pool_109 (mo_pool_27 n) x1 x2 x3 x4 x5 h
      else
        px_if (px_ok 0 52 x5) <|
        px_if (px_ok 0 52 x1) <|
        if (h 52 x5.toNatClampNeg) = (h 52 x1.toNatClampNeg) then
          px_if (px_ok 0 52 x1) <|
          px_bind (mo_leastRow 52 (((px_c 1) <<< (x1 &&& 31)) ||| ((px_c 1) <<< (x5 &&& 31))) (h 52 x1.toNatClampNeg) x2 (px_c 3) h) fun z6 h7 =>
          if z6 = 0 then
            mo_pool_109 (mo_pool_27 n) x1 x2 x3 x4 x5 h7
          else
            if z6 < x4 then
              mo_pool_109 (mo_pool_27 n) x1 x2 x5 z6 x5 h7
            else
              mo_pool_109 (mo_pool_27 n) x1 x2 x3 x4 x5 h7
        else
          mo_pool_109 (mo_pool_27 n) x1 x2 x3 x4 x5 h
noncomputable def mo_pool (x1 : Int32) (x2 : Int32) (h : pH) : pR :=
  let h1 := px_w h 51 14 (px_c 0)
  px_bind (mo_canGo x1 x2 h1) fun z2 h3 =>
  if z2 = 0 then
    some (px_c (-1), h3)
  else
    let y4_4 := px_k 1000000
    mo_pool_27 px_F x1 x2 (px_c (-2)) y4_4 (px_c 0) h3
def mo_pool_code : pCode := [(0, .aload_n 0, 1), (1, .iconst 0, 1), (2, .putfield 106, 3), (5, .aload_n 0, 1), (6, .iload_n 1, 1), (7, .iload_n 2, 1), (8, .invokevirtual 414, 3), (11, .ifCond .ne (5), 3), (14, .iconst (-1), 1), (15, .ireturn, 1), (16, .bipush (-2), 2), (18, .istore_n 3, 1), (19, .ldc_w 291, 3), (22, .istore 4, 2), (24, .iconst 0, 1), (25, .istore 5, 2), (27, .iload 5, 2), (29, .aload_n 0, 1), (30, .getfield 112, 3), (33, .if_icmp .ge (82), 3), (36, .iload 5, 2), (38, .iload_n 1, 1), (39, .if_icmp .eq (70), 3), (42, .aload_n 0, 1), (43, .getfield 9, 3), (46, .iload 5, 2), (48, .iaload, 1), (49, .aload_n 0, 1), (50, .getfield 9, 3), (53, .iload_n 1, 1), (54, .iaload, 1), (55, .if_icmp .eq (6), 3), (58, .goto (51), 3), (61, .aload_n 0, 1), (62, .aload_n 0, 1), (63, .getfield 9, 3), (66, .iconst 1, 1), (67, .iload_n 1, 1), (68, .ishl, 1), (69, .iconst 1, 1), (70, .iload 5, 2), (72, .ishl, 1), (73, .ior, 1), (74, .aload_n 0, 1), (75, .getfield 9, 3), (78, .iload_n 1, 1), (79, .iaload, 1), (80, .iload_n 2, 1), (81, .iconst 3, 1), (82, .invokevirtual 417, 3), (85, .istore 6, 2), (87, .iload 6, 2), (89, .ifCond .eq (20), 3), (92, .iload 6, 2), (94, .iload 4, 2), (96, .if_icmp .lt (6), 3), (99, .goto (10), 3), (102, .iload 5, 2), (104, .istore_n 3, 1), (105, .iload 6, 2), (107, .istore 4, 2), (109, .iinc 5 (1), 3), (112, .goto (-85), 3), (115, .iload_n 3, 1), (116, .ifCond .ge (6), 3), (119, .bipush (-2), 2), (121, .ireturn, 1), (122, .aload_n 0, 1), (123, .aload_n 0, 1), (124, .getfield 9, 3), (127, .iconst 1, 1), (128, .iload_n 1, 1), (129, .ishl, 1), (130, .aload_n 0, 1), (131, .getfield 9, 3), (134, .iload_n 1, 1), (135, .iaload, 1), (136, .iload_n 2, 1), (137, .iconst 3, 1), (138, .invokevirtual 417, 3), (141, .istore 5, 2), (143, .aload_n 0, 1), (144, .iconst 0, 1), (145, .putfield 109, 3), (148, .aload_n 0, 1), (149, .iload 4, 2), (151, .invokevirtual 312, 3), (154, .aload_n 0, 1), (155, .iload 5, 2), (157, .ifCond .ne (7), 3), (160, .iconst (-1), 1), (161, .goto (5), 3), (164, .iload 5, 2), (166, .invokevirtual 312, 3), (169, .iload_n 3, 1), (170, .ireturn, 1)]
set_option maxRecDepth 200000 in
theorem mo_pool_code_ok : px_code prog_13_method_92_code mo_pool_code = true := by decide +kernel
noncomputable def mo_pool_orc : pC := px_orc [(178, fun a h => match a with
    | [.inr (.inl 51), .inl v1] => mo_tell v1 h
    | _ => none), (253, fun a h => match a with
    | [.inr (.inl 51), .inr (.inl v1), .inl v2, .inl v3, .inl v4, .inl v5] => mo_leastRow v1 v2 v3 v4 v5 h
    | _ => none), (254, fun a h => match a with
    | [.inr (.inl 51), .inl v1, .inl v2] => mo_canGo v1 v2 h
    | _ => none)]
theorem mo_pool_orc_ok {d : Nat} : px_Or (d + 119) (mo_pool_orc) := px_orc_ok (by
  refine px_o1 (fun a h q e => by
    dsimp only at e
    split at e
    · exact mo_tell_ok (d := d + 118) e
    · cases e) ?_
  refine px_o1 (fun a h q e => by
    dsimp only at e
    split at e
    · exact mo_leastRow_ok (d := d + 0) e
    · cases e) ?_
  refine px_o1 (fun a h q e => by
    dsimp only at e
    split at e
    · exact mo_canGo_ok (d := d + 116) e
    · cases e) ?_
  exact px_o0)
set_option maxRecDepth 200000 in
theorem mo_pool_166_ok {d : Nat} : ∀ (x3 : Int32) (s0 : Int32) (h : pH) (q : Int32 × pH), mo_pool_166 x3 s0 h = some q → px_G (d + 119 + 1) (pX_RX11, prog_13_method_92_code, 7, (some .int)) 166 [none, none, none, some (.inl x3), none, none, none] [.inl s0, .inr (.inl 51)] h q := by
  intro x3 s0 h q e
  exact px_blk_ok (d := d + 119) (M := (pX_RX11, prog_13_method_92_code, 7, (some .int))) (C := mo_pool_orc) (code := mo_pool_code) (ld := []) (kl := []) (mo_pool_orc_ok) pX_ok_RX11 mo_pool_code_ok (px_k0) 101 166 _ _ h q e
set_option maxRecDepth 200000 in
theorem mo_pool_109_ok {d : Nat} {r27 : Int32 → Int32 → Int32 → Int32 → Int32 → pH → pR} (hr27 : ∀ (x1 : Int32) (x2 : Int32) (x3 : Int32) (x4 : Int32) (x5 : Int32) (h : pH) (q : Int32 × pH), r27 x1 x2 x3 x4 x5 h = some q → px_G (d + 119 + 1) (pX_RX11, prog_13_method_92_code, 7, (some .int)) 27 [some (.inr (.inl 51)), some (.inl x1), some (.inl x2), some (.inl x3), some (.inl x4), some (.inl x5), none] [] h q) : ∀ (x1 : Int32) (x2 : Int32) (x3 : Int32) (x4 : Int32) (x5 : Int32) (h : pH) (q : Int32 × pH), mo_pool_109 r27 x1 x2 x3 x4 x5 h = some q → px_G (d + 119 + 1) (pX_RX11, prog_13_method_92_code, 7, (some .int)) 109 [some (.inr (.inl 51)), some (.inl x1), some (.inl x2), some (.inl x3), some (.inl x4), some (.inl x5), none] [] h q := by
  intro x1 x2 x3 x4 x5 h q e
  exact px_blk_ok (d := d + 119) (M := (pX_RX11, prog_13_method_92_code, 7, (some .int))) (C := mo_pool_orc) (code := mo_pool_code) (ld := [27]) (kl := [(27, fun ls st h => px_if (px_fit [61, 1, 1, 1, 1, 1, 0] ls && px_fits [] st) (r27 (px_gi ls 1) (px_gi ls 2) (px_gi ls 3) (px_gi ls 4) (px_gi ls 5) h))]) (mo_pool_orc_ok) pX_ok_RX11 mo_pool_code_ok (px_k1 (px_ko (ts := [61, 1, 1, 1, 1, 1, 0]) (ss := []) fun ls st h q e => hr27 _ _ _ _ _ _ _ e) px_k0) 101 109 _ _ h q e
set_option maxRecDepth 200000 in
theorem mo_pool_27_ok {d : Nat} : ∀ (n : Nat) (x1 : Int32) (x2 : Int32) (x3 : Int32) (x4 : Int32) (x5 : Int32) (h : pH) (q : Int32 × pH), mo_pool_27 n x1 x2 x3 x4 x5 h = some q → px_G (d + 119 + 1) (pX_RX11, prog_13_method_92_code, 7, (some .int)) 27 [some (.inr (.inl 51)), some (.inl x1), some (.inl x2), some (.inl x3), some (.inl x4), some (.inl x5), none] [] h q := by
  intro n
  induction n with
  | zero =>
    intro x1 x2 x3 x4 x5 h q e
    cases e
  | succ n ih =>
    intro x1 x2 x3 x4 x5 h q e
    exact px_blk_ok (d := d + 119) (M := (pX_RX11, prog_13_method_92_code, 7, (some .int))) (C := mo_pool_orc) (code := mo_pool_code) (ld := [109, 166]) (kl := [(109, fun ls st h => px_if (px_fit [61, 1, 1, 1, 1, 1, 0] ls && px_fits [] st) (mo_pool_109 (mo_pool_27 n) (px_gi ls 1) (px_gi ls 2) (px_gi ls 3) (px_gi ls 4) (px_gi ls 5) h)), (166, fun ls st h => px_if (px_fit [0, 0, 0, 1, 0, 0, 0] ls && px_fits [1, 61] st) (mo_pool_166 (px_gi ls 3) (px_si st 0) h))]) (mo_pool_orc_ok) pX_ok_RX11 mo_pool_code_ok (px_k1 (px_ko (ts := [61, 1, 1, 1, 1, 1, 0]) (ss := []) fun ls st h q e => mo_pool_109_ok ih _ _ _ _ _ _ _ e) (px_k1 (px_ko (ts := [0, 0, 0, 1, 0, 0, 0]) (ss := [1, 61]) fun ls st h q e => mo_pool_166_ok _ _ _ _ e) px_k0)) 101 27 _ _ h q e
set_option maxRecDepth 200000 in
theorem mo_pool_ok {d : Nat} {x1 : Int32} {x2 : Int32} {h : pH} {q : Int32 × pH} (e : mo_pool x1 x2 h = some q) : px_Con (d + 120) 264 [.inr (.inl 51), .inl x1, .inl x2] h q :=
  px_con (X := pX_RX11) (b := prog_13_method_92_code) (nL := 7) (rt := (some .int)) rfl rfl (Nat.le_of_ble_eq_true rfl) rfl (px_blk_ok (d := d + 119) (M := (pX_RX11, prog_13_method_92_code, 7, (some .int))) (C := mo_pool_orc) (code := mo_pool_code) (ld := [27]) (kl := [(27, fun ls st h => px_if (px_fit [61, 1, 1, 1, 1, 1, 0] ls && px_fits [] st) (mo_pool_27 px_F (px_gi ls 1) (px_gi ls 2) (px_gi ls 3) (px_gi ls 4) (px_gi ls 5) h))]) (mo_pool_orc_ok) pX_ok_RX11 mo_pool_code_ok (px_k1 (px_ko (ts := [61, 1, 1, 1, 1, 1, 0]) (ss := []) fun ls st h q e => mo_pool_27_ok _ _ _ _ _ _ _ _ e) px_k0) 101 0 _ _ _ q e)
/-! WordsUnsaidModel.known(I)I -/
noncomputable def mo_known_95 (r29 : Int32 → Int32 → Int32 → Int32 → pH → pR) (x2 : Int32) (x3 : Int32) (x5 : Int32) (s0 : Int32) (s1 : Int32) (h : pH) : pR :=
  let y4_1 := s1 ||| s0
  r29 x2 x3 y4_1 (x5 + px_c 1) h
noncomputable def mo_known_94 (r29 : Int32 → Int32 → Int32 → Int32 → pH → pR) (x2 : Int32) (x3 : Int32) (x5 : Int32) (s0 : Int32) (h : pH) : pR :=
  mo_known_95 r29 x2 x3 x5 (px_c 0) s0 h
noncomputable def mo_known_62 (r29 : Int32 → Int32 → Int32 → Int32 → pH → pR) (x2 : Int32) (x4 : Int32) (x5 : Int32) (s0 : Int32) (s1 : Int32) (h : pH) : pR :=
  let y3_1 := s1 ||| s0
  if x2 = 0 then
    mo_known_94 r29 x2 y3_1 x5 x4 h
  else
    px_if (px_ok 0 52 ((px_c 42) + x5)) <|
    if (x2 &&& ((h 52 ((px_c 42) + x5).toNatClampNeg) ^^^ (px_c (-1)))) = 0 then
      mo_known_95 r29 x2 y3_1 x5 ((px_c 1) <<< (x5 &&& 31)) x4 h
    else
      mo_known_94 r29 x2 y3_1 x5 x4 h
noncomputable def mo_known_29 : Nat → Int32 → Int32 → Int32 → Int32 → pH → pR
  | 0, _, _, _, _, _ => none
  | n + 1, x2, x3, x4, x5, h =>
    if (h 51 6) ≤ x5 then
      let h1 := px_w h 51 13 (px_c 0)
      px_bind (mo_tell x4 h1) fun _ h3 =>
      some (x3, h3)
    else
      px_if (px_ok 0 52 ((px_c 42) + x5)) <|
      if ((h 52 ((px_c 42) + x5).toNatClampNeg) &&& x2) = 0 then
        mo_known_62 (mo_known_29 n) x2 x4 x5 (px_c 0) x3 h
      else
        mo_known_62 (mo_known_29 n) x2 x4 x5 ((px_c 1) <<< (x5 &&& 31)) x3 h
noncomputable def mo_known (x1 : Int32) (h : pH) : pR :=
  let h1 := px_w h 51 14 (px_c 0)
  px_bind (mo_isPlace x1 h1) fun z2 h3 =>
  if z2 = 0 then
    some (px_c (-1), h3)
  else
    px_bind (mo_peopleAt x1 h3) fun z4 h5 =>
    mo_known_29 px_F z4 (px_c 0) (px_c 0) (px_c 0) h5
def mo_known_code : pCode := [(0, .aload_n 0, 1), (1, .iconst 0, 1), (2, .putfield 106, 3), (5, .aload_n 0, 1), (6, .iload_n 1, 1), (7, .invokevirtual 443, 3), (10, .ifCond .ne (5), 3), (13, .iconst (-1), 1), (14, .ireturn, 1), (15, .aload_n 0, 1), (16, .iload_n 1, 1), (17, .invokevirtual 334, 3), (20, .istore_n 2, 1), (21, .iconst 0, 1), (22, .istore_n 3, 1), (23, .iconst 0, 1), (24, .istore 4, 2), (26, .iconst 0, 1), (27, .istore 5, 2), (29, .iload 5, 2), (31, .aload_n 0, 1), (32, .getfield 119, 3), (35, .if_icmp .ge (69), 3), (38, .iload_n 3, 1), (39, .aload_n 0, 1), (40, .getfield 9, 3), (43, .bipush (42), 2), (45, .iload 5, 2), (47, .iadd, 1), (48, .iaload, 1), (49, .iload_n 2, 1), (50, .iand, 1), (51, .ifCond .eq (10), 3), (54, .iconst 1, 1), (55, .iload 5, 2), (57, .ishl, 1), (58, .goto (4), 3), (61, .iconst 0, 1), (62, .ior, 1), (63, .istore_n 3, 1), (64, .iload 4, 2), (66, .iload_n 2, 1), (67, .ifCond .eq (27), 3), (70, .iload_n 2, 1), (71, .aload_n 0, 1), (72, .getfield 9, 3), (75, .bipush (42), 2), (77, .iload 5, 2), (79, .iadd, 1), (80, .iaload, 1), (81, .iconst (-1), 1), (82, .ixor, 1), (83, .iand, 1), (84, .ifCond .ne (10), 3), (87, .iconst 1, 1), (88, .iload 5, 2), (90, .ishl, 1), (91, .goto (4), 3), (94, .iconst 0, 1), (95, .ior, 1), (96, .istore 4, 2), (98, .iinc 5 (1), 3), (101, .goto (-72), 3), (104, .aload_n 0, 1), (105, .iconst 0, 1), (106, .putfield 109, 3), (109, .aload_n 0, 1), (110, .iload 4, 2), (112, .invokevirtual 312, 3), (115, .iload_n 3, 1), (116, .ireturn, 1)]
set_option maxRecDepth 200000 in
theorem mo_known_code_ok : px_code prog_13_method_93_code mo_known_code = true := by decide +kernel
noncomputable def mo_known_orc : pC := px_orc [(178, fun a h => match a with
    | [.inr (.inl 51), .inl v1] => mo_tell v1 h
    | _ => none), (182, fun a h => match a with
    | [.inr (.inl 51), .inl v1] => mo_isPlace v1 h
    | _ => none), (207, fun a h => match a with
    | [.inr (.inl 51), .inl v1] => mo_peopleAt v1 h
    | _ => none)]
theorem mo_known_orc_ok {d : Nat} : px_Or (d + 2) (mo_known_orc) := px_orc_ok (by
  refine px_o1 (fun a h q e => by
    dsimp only at e
    split at e
    · exact mo_tell_ok (d := d + 1) e
    · cases e) ?_
  refine px_o1 (fun a h q e => by
    dsimp only at e
    split at e
    · exact mo_isPlace_ok (d := d + 0) e
    · cases e) ?_
  refine px_o1 (fun a h q e => by
    dsimp only at e
    split at e
    · exact mo_peopleAt_ok (d := d + 1) e
    · cases e) ?_
  exact px_o0)
set_option maxRecDepth 200000 in
theorem mo_known_95_ok {d : Nat} {r29 : Int32 → Int32 → Int32 → Int32 → pH → pR} (hr29 : ∀ (x2 : Int32) (x3 : Int32) (x4 : Int32) (x5 : Int32) (h : pH) (q : Int32 × pH), r29 x2 x3 x4 x5 h = some q → px_G (d + 2 + 1) (pX_RX11, prog_13_method_93_code, 6, (some .int)) 29 [some (.inr (.inl 51)), none, some (.inl x2), some (.inl x3), some (.inl x4), some (.inl x5)] [] h q) : ∀ (x2 : Int32) (x3 : Int32) (x5 : Int32) (s0 : Int32) (s1 : Int32) (h : pH) (q : Int32 × pH), mo_known_95 r29 x2 x3 x5 s0 s1 h = some q → px_G (d + 2 + 1) (pX_RX11, prog_13_method_93_code, 6, (some .int)) 95 [some (.inr (.inl 51)), none, some (.inl x2), some (.inl x3), none, some (.inl x5)] [.inl s0, .inl s1] h q := by
  intro x2 x3 x5 s0 s1 h q e
  exact px_blk_ok (d := d + 2) (M := (pX_RX11, prog_13_method_93_code, 6, (some .int))) (C := mo_known_orc) (code := mo_known_code) (ld := [29]) (kl := [(29, fun ls st h => px_if (px_fit [61, 0, 1, 1, 1, 1] ls && px_fits [] st) (r29 (px_gi ls 2) (px_gi ls 3) (px_gi ls 4) (px_gi ls 5) h))]) (mo_known_orc_ok) pX_ok_RX11 mo_known_code_ok (px_k1 (px_ko (ts := [61, 0, 1, 1, 1, 1]) (ss := []) fun ls st h q e => hr29 _ _ _ _ _ _ e) px_k0) 76 95 _ _ h q e
set_option maxRecDepth 200000 in
theorem mo_known_94_ok {d : Nat} {r29 : Int32 → Int32 → Int32 → Int32 → pH → pR} (hr29 : ∀ (x2 : Int32) (x3 : Int32) (x4 : Int32) (x5 : Int32) (h : pH) (q : Int32 × pH), r29 x2 x3 x4 x5 h = some q → px_G (d + 2 + 1) (pX_RX11, prog_13_method_93_code, 6, (some .int)) 29 [some (.inr (.inl 51)), none, some (.inl x2), some (.inl x3), some (.inl x4), some (.inl x5)] [] h q) : ∀ (x2 : Int32) (x3 : Int32) (x5 : Int32) (s0 : Int32) (h : pH) (q : Int32 × pH), mo_known_94 r29 x2 x3 x5 s0 h = some q → px_G (d + 2 + 1) (pX_RX11, prog_13_method_93_code, 6, (some .int)) 94 [some (.inr (.inl 51)), none, some (.inl x2), some (.inl x3), none, some (.inl x5)] [.inl s0] h q := by
  intro x2 x3 x5 s0 h q e
  exact px_blk_ok (d := d + 2) (M := (pX_RX11, prog_13_method_93_code, 6, (some .int))) (C := mo_known_orc) (code := mo_known_code) (ld := [95]) (kl := [(95, fun ls st h => px_if (px_fit [61, 0, 1, 1, 0, 1] ls && px_fits [1, 1] st) (mo_known_95 r29 (px_gi ls 2) (px_gi ls 3) (px_gi ls 5) (px_si st 0) (px_si st 1) h))]) (mo_known_orc_ok) pX_ok_RX11 mo_known_code_ok (px_k1 (px_ko (ts := [61, 0, 1, 1, 0, 1]) (ss := [1, 1]) fun ls st h q e => mo_known_95_ok hr29 _ _ _ _ _ _ _ e) px_k0) 76 94 _ _ h q e
set_option maxRecDepth 200000 in
theorem mo_known_62_ok {d : Nat} {r29 : Int32 → Int32 → Int32 → Int32 → pH → pR} (hr29 : ∀ (x2 : Int32) (x3 : Int32) (x4 : Int32) (x5 : Int32) (h : pH) (q : Int32 × pH), r29 x2 x3 x4 x5 h = some q → px_G (d + 2 + 1) (pX_RX11, prog_13_method_93_code, 6, (some .int)) 29 [some (.inr (.inl 51)), none, some (.inl x2), some (.inl x3), some (.inl x4), some (.inl x5)] [] h q) : ∀ (x2 : Int32) (x4 : Int32) (x5 : Int32) (s0 : Int32) (s1 : Int32) (h : pH) (q : Int32 × pH), mo_known_62 r29 x2 x4 x5 s0 s1 h = some q → px_G (d + 2 + 1) (pX_RX11, prog_13_method_93_code, 6, (some .int)) 62 [some (.inr (.inl 51)), none, some (.inl x2), none, some (.inl x4), some (.inl x5)] [.inl s0, .inl s1] h q := by
  intro x2 x4 x5 s0 s1 h q e
  exact px_blk_ok (d := d + 2) (M := (pX_RX11, prog_13_method_93_code, 6, (some .int))) (C := mo_known_orc) (code := mo_known_code) (ld := [94, 95]) (kl := [(94, fun ls st h => px_if (px_fit [61, 0, 1, 1, 0, 1] ls && px_fits [1] st) (mo_known_94 r29 (px_gi ls 2) (px_gi ls 3) (px_gi ls 5) (px_si st 0) h)), (95, fun ls st h => px_if (px_fit [61, 0, 1, 1, 0, 1] ls && px_fits [1, 1] st) (mo_known_95 r29 (px_gi ls 2) (px_gi ls 3) (px_gi ls 5) (px_si st 0) (px_si st 1) h))]) (mo_known_orc_ok) pX_ok_RX11 mo_known_code_ok (px_k1 (px_ko (ts := [61, 0, 1, 1, 0, 1]) (ss := [1]) fun ls st h q e => mo_known_94_ok hr29 _ _ _ _ _ _ e) (px_k1 (px_ko (ts := [61, 0, 1, 1, 0, 1]) (ss := [1, 1]) fun ls st h q e => mo_known_95_ok hr29 _ _ _ _ _ _ _ e) px_k0)) 76 62 _ _ h q e
set_option maxRecDepth 200000 in
theorem mo_known_29_ok {d : Nat} : ∀ (n : Nat) (x2 : Int32) (x3 : Int32) (x4 : Int32) (x5 : Int32) (h : pH) (q : Int32 × pH), mo_known_29 n x2 x3 x4 x5 h = some q → px_G (d + 2 + 1) (pX_RX11, prog_13_method_93_code, 6, (some .int)) 29 [some (.inr (.inl 51)), none, some (.inl x2), some (.inl x3), some (.inl x4), some (.inl x5)] [] h q := by
  intro n
  induction n with
  | zero =>
    intro x2 x3 x4 x5 h q e
    cases e
  | succ n ih =>
    intro x2 x3 x4 x5 h q e
    exact px_blk_ok (d := d + 2) (M := (pX_RX11, prog_13_method_93_code, 6, (some .int))) (C := mo_known_orc) (code := mo_known_code) (ld := [62]) (kl := [(62, fun ls st h => px_if (px_fit [61, 0, 1, 0, 1, 1] ls && px_fits [1, 1] st) (mo_known_62 (mo_known_29 n) (px_gi ls 2) (px_gi ls 4) (px_gi ls 5) (px_si st 0) (px_si st 1) h))]) (mo_known_orc_ok) pX_ok_RX11 mo_known_code_ok (px_k1 (px_ko (ts := [61, 0, 1, 0, 1, 1]) (ss := [1, 1]) fun ls st h q e => mo_known_62_ok ih _ _ _ _ _ _ _ e) px_k0) 76 29 _ _ h q e
set_option maxRecDepth 200000 in
theorem mo_known_ok {d : Nat} {x1 : Int32} {h : pH} {q : Int32 × pH} (e : mo_known x1 h = some q) : px_Con (d + 3) 265 [.inr (.inl 51), .inl x1] h q :=
  px_con (X := pX_RX11) (b := prog_13_method_93_code) (nL := 6) (rt := (some .int)) rfl rfl (Nat.le_of_ble_eq_true rfl) rfl (px_blk_ok (d := d + 2) (M := (pX_RX11, prog_13_method_93_code, 6, (some .int))) (C := mo_known_orc) (code := mo_known_code) (ld := [29]) (kl := [(29, fun ls st h => px_if (px_fit [61, 0, 1, 1, 1, 1] ls && px_fits [] st) (mo_known_29 px_F (px_gi ls 2) (px_gi ls 3) (px_gi ls 4) (px_gi ls 5) h))]) (mo_known_orc_ok) pX_ok_RX11 mo_known_code_ok (px_k1 (px_ko (ts := [61, 0, 1, 1, 1, 1]) (ss := []) fun ls st h q e => mo_known_29_ok _ _ _ _ _ _ _ e) px_k0) 76 0 _ _ _ q e)
/-! WordsUnsaidModel.sayable(I)I -/
noncomputable def mo_sayable_86 (r22 : Int32 → Int32 → Int32 → Int32 → pH → pR) (x1 : Int32) (x2 : Int32) (x3 : Int32) (x4 : Int32) (h : pH) : pR :=
  r22 x1 x2 x3 (x4 + px_c 1) h
noncomputable def mo_sayable_22 : Nat → Int32 → Int32 → Int32 → Int32 → pH → pR
  | 0, _, _, _, _, _ => none
  | n + 1, x1, x2, x3, x4, h =>
    if (h 51 6) ≤ x4 then
      let h1 := px_w h 51 13 (px_c 0)
      px_bind (mo_tell x3 h1) fun _ h3 =>
      some (x2, h3)
    else
      px_bind (mo_refusesSay x1 x4 h) fun z4 h5 =>
      if 0 ≤ z4 then
        let y2_6 := x2 ||| ((px_c 1) <<< (x4 &&& 31))
        px_if (px_ok 0 52 x1) <|
        px_bind (mo_peopleAt (h5 52 x1.toNatClampNeg) h5) fun z7 h8 =>
        px_if (px_ok 0 52 ((px_c 42) + x4)) <|
        px_bind (jn_bitCount ((z7 &&& ((h8 52 ((px_c 42) + x4).toNatClampNeg) ^^^ (px_c (-1)))) &&& (((px_c 1) <<< (x1 &&& 31)) ^^^ (px_c (-1)))) h8) fun z9 h10 =>
        let y3_11 := x3 + z9
        mo_sayable_86 (mo_sayable_22 n) x1 y2_6 y3_11 x4 h10
      else
        mo_sayable_86 (mo_sayable_22 n) x1 x2 x3 x4 h5
noncomputable def mo_sayable (x1 : Int32) (h : pH) : pR :=
  let h1 := px_w h 51 14 (px_c 0)
  px_bind (mo_isPerson x1 h1) fun z2 h3 =>
  if z2 = 0 then
    some (px_c (-1), h3)
  else
    mo_sayable_22 px_F x1 (px_c 0) (px_c 0) (px_c 0) h3
def mo_sayable_code : pCode := [(0, .aload_n 0, 1), (1, .iconst 0, 1), (2, .putfield 106, 3), (5, .aload_n 0, 1), (6, .iload_n 1, 1), (7, .invokevirtual 122, 3), (10, .ifCond .ne (5), 3), (13, .iconst (-1), 1), (14, .ireturn, 1), (15, .iconst 0, 1), (16, .istore_n 2, 1), (17, .iconst 0, 1), (18, .istore_n 3, 1), (19, .iconst 0, 1), (20, .istore 4, 2), (22, .iload 4, 2), (24, .aload_n 0, 1), (25, .getfield 119, 3), (28, .if_icmp .ge (64), 3), (31, .aload_n 0, 1), (32, .iload_n 1, 1), (33, .iload 4, 2), (35, .invokevirtual 337, 3), (38, .ifCond .ge (6), 3), (41, .goto (45), 3), (44, .iload_n 2, 1), (45, .iconst 1, 1), (46, .iload 4, 2), (48, .ishl, 1), (49, .ior, 1), (50, .istore_n 2, 1), (51, .iload_n 3, 1), (52, .aload_n 0, 1), (53, .aload_n 0, 1), (54, .getfield 9, 3), (57, .iload_n 1, 1), (58, .iaload, 1), (59, .invokevirtual 334, 3), (62, .aload_n 0, 1), (63, .getfield 9, 3), (66, .bipush (42), 2), (68, .iload 4, 2), (70, .iadd, 1), (71, .iaload, 1), (72, .iconst (-1), 1), (73, .ixor, 1), (74, .iand, 1), (75, .iconst 1, 1), (76, .iload_n 1, 1), (77, .ishl, 1), (78, .iconst (-1), 1), (79, .ixor, 1), (80, .iand, 1), (81, .invokestatic 222, 3), (84, .iadd, 1), (85, .istore_n 3, 1), (86, .iinc 4 (1), 3), (89, .goto (-67), 3), (92, .aload_n 0, 1), (93, .iconst 0, 1), (94, .putfield 109, 3), (97, .aload_n 0, 1), (98, .iload_n 3, 1), (99, .invokevirtual 312, 3), (102, .iload_n 2, 1), (103, .ireturn, 1)]
set_option maxRecDepth 200000 in
theorem mo_sayable_code_ok : px_code prog_13_method_94_code mo_sayable_code = true := by decide +kernel
noncomputable def mo_sayable_orc : pC := px_orc [(178, fun a h => match a with
    | [.inr (.inl 51), .inl v1] => mo_tell v1 h
    | _ => none), (231, fun a h => match a with
    | [.inr (.inl 51), .inl v1, .inl v2] => mo_refusesSay v1 v2 h
    | _ => none), (207, fun a h => match a with
    | [.inr (.inl 51), .inl v1] => mo_peopleAt v1 h
    | _ => none), (279, fun a h => match a with
    | [.inl v0] => jn_bitCount v0 h
    | _ => none), (179, fun a h => match a with
    | [.inr (.inl 51), .inl v1] => mo_isPerson v1 h
    | _ => none)]
theorem mo_sayable_orc_ok {d : Nat} : px_Or (d + 3) (mo_sayable_orc) := px_orc_ok (by
  refine px_o1 (fun a h q e => by
    dsimp only at e
    split at e
    · exact mo_tell_ok (d := d + 2) e
    · cases e) ?_
  refine px_o1 (fun a h q e => by
    dsimp only at e
    split at e
    · exact mo_refusesSay_ok (d := d + 0) e
    · cases e) ?_
  refine px_o1 (fun a h q e => by
    dsimp only at e
    split at e
    · exact mo_peopleAt_ok (d := d + 2) e
    · cases e) ?_
  refine px_o1 (fun a h q e => by
    dsimp only at e
    split at e
    · exact jn_bitCount_ok (d := d + 2) e
    · cases e) ?_
  refine px_o1 (fun a h q e => by
    dsimp only at e
    split at e
    · exact mo_isPerson_ok (d := d + 1) e
    · cases e) ?_
  exact px_o0)
set_option maxRecDepth 200000 in
theorem mo_sayable_86_ok {d : Nat} {r22 : Int32 → Int32 → Int32 → Int32 → pH → pR} (hr22 : ∀ (x1 : Int32) (x2 : Int32) (x3 : Int32) (x4 : Int32) (h : pH) (q : Int32 × pH), r22 x1 x2 x3 x4 h = some q → px_G (d + 3 + 1) (pX_RX11, prog_13_method_94_code, 5, (some .int)) 22 [some (.inr (.inl 51)), some (.inl x1), some (.inl x2), some (.inl x3), some (.inl x4)] [] h q) : ∀ (x1 : Int32) (x2 : Int32) (x3 : Int32) (x4 : Int32) (h : pH) (q : Int32 × pH), mo_sayable_86 r22 x1 x2 x3 x4 h = some q → px_G (d + 3 + 1) (pX_RX11, prog_13_method_94_code, 5, (some .int)) 86 [some (.inr (.inl 51)), some (.inl x1), some (.inl x2), some (.inl x3), some (.inl x4)] [] h q := by
  intro x1 x2 x3 x4 h q e
  exact px_blk_ok (d := d + 3) (M := (pX_RX11, prog_13_method_94_code, 5, (some .int))) (C := mo_sayable_orc) (code := mo_sayable_code) (ld := [22]) (kl := [(22, fun ls st h => px_if (px_fit [61, 1, 1, 1, 1] ls && px_fits [] st) (r22 (px_gi ls 1) (px_gi ls 2) (px_gi ls 3) (px_gi ls 4) h))]) (mo_sayable_orc_ok) pX_ok_RX11 mo_sayable_code_ok (px_k1 (px_ko (ts := [61, 1, 1, 1, 1]) (ss := []) fun ls st h q e => hr22 _ _ _ _ _ _ e) px_k0) 71 86 _ _ h q e
set_option maxRecDepth 200000 in
theorem mo_sayable_22_ok {d : Nat} : ∀ (n : Nat) (x1 : Int32) (x2 : Int32) (x3 : Int32) (x4 : Int32) (h : pH) (q : Int32 × pH), mo_sayable_22 n x1 x2 x3 x4 h = some q → px_G (d + 3 + 1) (pX_RX11, prog_13_method_94_code, 5, (some .int)) 22 [some (.inr (.inl 51)), some (.inl x1), some (.inl x2), some (.inl x3), some (.inl x4)] [] h q := by
  intro n
  induction n with
  | zero =>
    intro x1 x2 x3 x4 h q e
    cases e
  | succ n ih =>
    intro x1 x2 x3 x4 h q e
    exact px_blk_ok (d := d + 3) (M := (pX_RX11, prog_13_method_94_code, 5, (some .int))) (C := mo_sayable_orc) (code := mo_sayable_code) (ld := [86]) (kl := [(86, fun ls st h => px_if (px_fit [61, 1, 1, 1, 1] ls && px_fits [] st) (mo_sayable_86 (mo_sayable_22 n) (px_gi ls 1) (px_gi ls 2) (px_gi ls 3) (px_gi ls 4) h))]) (mo_sayable_orc_ok) pX_ok_RX11 mo_sayable_code_ok (px_k1 (px_ko (ts := [61, 1, 1, 1, 1]) (ss := []) fun ls st h q e => mo_sayable_86_ok ih _ _ _ _ _ _ e) px_k0) 71 22 _ _ h q e
set_option maxRecDepth 200000 in
theorem mo_sayable_ok {d : Nat} {x1 : Int32} {h : pH} {q : Int32 × pH} (e : mo_sayable x1 h = some q) : px_Con (d + 4) 266 [.inr (.inl 51), .inl x1] h q :=
  px_con (X := pX_RX11) (b := prog_13_method_94_code) (nL := 5) (rt := (some .int)) rfl rfl (Nat.le_of_ble_eq_true rfl) rfl (px_blk_ok (d := d + 3) (M := (pX_RX11, prog_13_method_94_code, 5, (some .int))) (C := mo_sayable_orc) (code := mo_sayable_code) (ld := [22]) (kl := [(22, fun ls st h => px_if (px_fit [61, 1, 1, 1, 1] ls && px_fits [] st) (mo_sayable_22 px_F (px_gi ls 1) (px_gi ls 2) (px_gi ls 3) (px_gi ls 4) h))]) (mo_sayable_orc_ok) pX_ok_RX11 mo_sayable_code_ok (px_k1 (px_ko (ts := [61, 1, 1, 1, 1]) (ss := []) fun ls st h q e => mo_sayable_22_ok _ _ _ _ _ _ _ e) px_k0) 71 0 _ _ _ q e)
/-! WordsUnsaidModel.apart()I -/
noncomputable def mo_apart_107 (r11 : Int32 → Int32 → Int32 → pH → pR) (x1 : Int32) (x3 : Int32) (s0 : Int32) (s1 : Int32) (h : pH) : pR :=
  let y2_1 := s1 ||| s0
  r11 x1 y2_1 (x3 + px_c 1) h
noncomputable def mo_apart_106 (r11 : Int32 → Int32 → Int32 → pH → pR) (x1 : Int32) (x3 : Int32) (s0 : Int32) (h : pH) : pR :=
  mo_apart_107 r11 x1 x3 (px_c 0) s0 h
noncomputable def mo_apart_87 (r11 : Int32 → Int32 → Int32 → pH → pR) (x2 : Int32) (x3 : Int32) (x4 : Int32) (x5 : Int32) (s0 : Int32) (s1 : Int32) (h : pH) : pR :=
  let y1_1 := s1 ||| s0
  if x5 = 0 then
    mo_apart_106 r11 y1_1 x3 x2 h
  else
    if x4 = 0 then
      mo_apart_107 r11 y1_1 x3 ((px_c 1) <<< (x3 &&& 31)) x2 h
    else
      mo_apart_106 r11 y1_1 x3 x2 h
noncomputable def mo_apart_86 (r11 : Int32 → Int32 → Int32 → pH → pR) (x2 : Int32) (x3 : Int32) (x4 : Int32) (x5 : Int32) (s0 : Int32) (h : pH) : pR :=
  mo_apart_87 r11 x2 x3 x4 x5 (px_c 0) s0 h
noncomputable def mo_apart_67 (r11 : Int32 → Int32 → Int32 → pH → pR) (x1 : Int32) (x2 : Int32) (x3 : Int32) (x4 : Int32) (s0 : Int32) (h : pH) : pR :=
  if x4 = 0 then
    mo_apart_86 r11 x2 x3 x4 s0 x1 h
  else
    if s0 = 0 then
      mo_apart_87 r11 x2 x3 x4 s0 ((px_c 1) <<< (x3 &&& 31)) x1 h
    else
      mo_apart_86 r11 x2 x3 x4 s0 x1 h
noncomputable def mo_apart_42 (r11 : Int32 → Int32 → Int32 → pH → pR) (x1 : Int32) (x2 : Int32) (x3 : Int32) (s0 : Int32) (h : pH) : pR :=
  px_if (px_ok 0 52 ((px_c 42) + x3)) <|
  px_bind (mo_peopleAt (px_c 1) h) fun z1 h2 =>
  if ((h 52 ((px_c 42) + x3).toNatClampNeg) &&& z1) = 0 then
    mo_apart_67 r11 x1 x2 x3 s0 (px_c 0) h2
  else
    mo_apart_67 r11 x1 x2 x3 s0 (px_c 1) h2
noncomputable def mo_apart_11 : Nat → Int32 → Int32 → Int32 → pH → pR
  | 0, _, _, _, _ => none
  | n + 1, x1, x2, x3, h =>
    if (h 51 6) ≤ x3 then
      let h1 := px_w h 51 13 (px_c 0)
      px_bind (mo_tell x1 h1) fun _ h3 =>
      px_bind (mo_tell x2 h3) fun _ h5 =>
      some (x1 ||| x2, h5)
    else
      px_if (px_ok 0 52 ((px_c 42) + x3)) <|
      px_bind (mo_peopleAt (px_c 0) h) fun z6 h7 =>
      if ((h 52 ((px_c 42) + x3).toNatClampNeg) &&& z6) = 0 then
        mo_apart_42 (mo_apart_11 n) x1 x2 x3 (px_c 0) h7
      else
        mo_apart_42 (mo_apart_11 n) x1 x2 x3 (px_c 1) h7
noncomputable def mo_apart (h : pH) : pR :=
  let h1 := px_w h 51 14 (px_c 0)
  mo_apart_11 px_F (px_c 0) (px_c 0) (px_c 0) h1
def mo_apart_code : pCode := [(0, .aload_n 0, 1), (1, .iconst 0, 1), (2, .putfield 106, 3), (5, .iconst 0, 1), (6, .istore_n 1, 1), (7, .iconst 0, 1), (8, .istore_n 2, 1), (9, .iconst 0, 1), (10, .istore_n 3, 1), (11, .iload_n 3, 1), (12, .aload_n 0, 1), (13, .getfield 119, 3), (16, .if_icmp .ge (99), 3), (19, .aload_n 0, 1), (20, .getfield 9, 3), (23, .bipush (42), 2), (25, .iload_n 3, 1), (26, .iadd, 1), (27, .iaload, 1), (28, .aload_n 0, 1), (29, .iconst 0, 1), (30, .invokevirtual 334, 3), (33, .iand, 1), (34, .ifCond .eq (7), 3), (37, .iconst 1, 1), (38, .goto (4), 3), (41, .iconst 0, 1), (42, .istore 4, 2), (44, .aload_n 0, 1), (45, .getfield 9, 3), (48, .bipush (42), 2), (50, .iload_n 3, 1), (51, .iadd, 1), (52, .iaload, 1), (53, .aload_n 0, 1), (54, .iconst 1, 1), (55, .invokevirtual 334, 3), (58, .iand, 1), (59, .ifCond .eq (7), 3), (62, .iconst 1, 1), (63, .goto (4), 3), (66, .iconst 0, 1), (67, .istore 5, 2), (69, .iload_n 1, 1), (70, .iload 4, 2), (72, .ifCond .eq (14), 3), (75, .iload 5, 2), (77, .ifCond .ne (9), 3), (80, .iconst 1, 1), (81, .iload_n 3, 1), (82, .ishl, 1), (83, .goto (4), 3), (86, .iconst 0, 1), (87, .ior, 1), (88, .istore_n 1, 1), (89, .iload_n 2, 1), (90, .iload 5, 2), (92, .ifCond .eq (14), 3), (95, .iload 4, 2), (97, .ifCond .ne (9), 3), (100, .iconst 1, 1), (101, .iload_n 3, 1), (102, .ishl, 1), (103, .goto (4), 3), (106, .iconst 0, 1), (107, .ior, 1), (108, .istore_n 2, 1), (109, .iinc 3 (1), 3), (112, .goto (-101), 3), (115, .aload_n 0, 1), (116, .iconst 0, 1), (117, .putfield 109, 3), (120, .aload_n 0, 1), (121, .iload_n 1, 1), (122, .invokevirtual 312, 3), (125, .aload_n 0, 1), (126, .iload_n 2, 1), (127, .invokevirtual 312, 3), (130, .iload_n 1, 1), (131, .iload_n 2, 1), (132, .ior, 1), (133, .ireturn, 1)]
set_option maxRecDepth 200000 in
theorem mo_apart_code_ok : px_code prog_13_method_95_code mo_apart_code = true := by decide +kernel
noncomputable def mo_apart_orc : pC := px_orc [(207, fun a h => match a with
    | [.inr (.inl 51), .inl v1] => mo_peopleAt v1 h
    | _ => none), (178, fun a h => match a with
    | [.inr (.inl 51), .inl v1] => mo_tell v1 h
    | _ => none)]
theorem mo_apart_orc_ok {d : Nat} : px_Or (d + 1) (mo_apart_orc) := px_orc_ok (by
  refine px_o1 (fun a h q e => by
    dsimp only at e
    split at e
    · exact mo_peopleAt_ok (d := d + 0) e
    · cases e) ?_
  refine px_o1 (fun a h q e => by
    dsimp only at e
    split at e
    · exact mo_tell_ok (d := d + 0) e
    · cases e) ?_
  exact px_o0)
set_option maxRecDepth 200000 in
theorem mo_apart_107_ok {d : Nat} {r11 : Int32 → Int32 → Int32 → pH → pR} (hr11 : ∀ (x1 : Int32) (x2 : Int32) (x3 : Int32) (h : pH) (q : Int32 × pH), r11 x1 x2 x3 h = some q → px_G (d + 1 + 1) (pX_RX11, prog_13_method_95_code, 6, (some .int)) 11 [some (.inr (.inl 51)), some (.inl x1), some (.inl x2), some (.inl x3), none, none] [] h q) : ∀ (x1 : Int32) (x3 : Int32) (s0 : Int32) (s1 : Int32) (h : pH) (q : Int32 × pH), mo_apart_107 r11 x1 x3 s0 s1 h = some q → px_G (d + 1 + 1) (pX_RX11, prog_13_method_95_code, 6, (some .int)) 107 [some (.inr (.inl 51)), some (.inl x1), none, some (.inl x3), none, none] [.inl s0, .inl s1] h q := by
  intro x1 x3 s0 s1 h q e
  exact px_blk_ok (d := d + 1) (M := (pX_RX11, prog_13_method_95_code, 6, (some .int))) (C := mo_apart_orc) (code := mo_apart_code) (ld := [11]) (kl := [(11, fun ls st h => px_if (px_fit [61, 1, 1, 1, 0, 0] ls && px_fits [] st) (r11 (px_gi ls 1) (px_gi ls 2) (px_gi ls 3) h))]) (mo_apart_orc_ok) pX_ok_RX11 mo_apart_code_ok (px_k1 (px_ko (ts := [61, 1, 1, 1, 0, 0]) (ss := []) fun ls st h q e => hr11 _ _ _ _ _ e) px_k0) 87 107 _ _ h q e
set_option maxRecDepth 200000 in
theorem mo_apart_106_ok {d : Nat} {r11 : Int32 → Int32 → Int32 → pH → pR} (hr11 : ∀ (x1 : Int32) (x2 : Int32) (x3 : Int32) (h : pH) (q : Int32 × pH), r11 x1 x2 x3 h = some q → px_G (d + 1 + 1) (pX_RX11, prog_13_method_95_code, 6, (some .int)) 11 [some (.inr (.inl 51)), some (.inl x1), some (.inl x2), some (.inl x3), none, none] [] h q) : ∀ (x1 : Int32) (x3 : Int32) (s0 : Int32) (h : pH) (q : Int32 × pH), mo_apart_106 r11 x1 x3 s0 h = some q → px_G (d + 1 + 1) (pX_RX11, prog_13_method_95_code, 6, (some .int)) 106 [some (.inr (.inl 51)), some (.inl x1), none, some (.inl x3), none, none] [.inl s0] h q := by
  intro x1 x3 s0 h q e
  exact px_blk_ok (d := d + 1) (M := (pX_RX11, prog_13_method_95_code, 6, (some .int))) (C := mo_apart_orc) (code := mo_apart_code) (ld := [107]) (kl := [(107, fun ls st h => px_if (px_fit [61, 1, 0, 1, 0, 0] ls && px_fits [1, 1] st) (mo_apart_107 r11 (px_gi ls 1) (px_gi ls 3) (px_si st 0) (px_si st 1) h))]) (mo_apart_orc_ok) pX_ok_RX11 mo_apart_code_ok (px_k1 (px_ko (ts := [61, 1, 0, 1, 0, 0]) (ss := [1, 1]) fun ls st h q e => mo_apart_107_ok hr11 _ _ _ _ _ _ e) px_k0) 87 106 _ _ h q e
set_option maxRecDepth 200000 in
theorem mo_apart_87_ok {d : Nat} {r11 : Int32 → Int32 → Int32 → pH → pR} (hr11 : ∀ (x1 : Int32) (x2 : Int32) (x3 : Int32) (h : pH) (q : Int32 × pH), r11 x1 x2 x3 h = some q → px_G (d + 1 + 1) (pX_RX11, prog_13_method_95_code, 6, (some .int)) 11 [some (.inr (.inl 51)), some (.inl x1), some (.inl x2), some (.inl x3), none, none] [] h q) : ∀ (x2 : Int32) (x3 : Int32) (x4 : Int32) (x5 : Int32) (s0 : Int32) (s1 : Int32) (h : pH) (q : Int32 × pH), mo_apart_87 r11 x2 x3 x4 x5 s0 s1 h = some q → px_G (d + 1 + 1) (pX_RX11, prog_13_method_95_code, 6, (some .int)) 87 [some (.inr (.inl 51)), none, some (.inl x2), some (.inl x3), some (.inl x4), some (.inl x5)] [.inl s0, .inl s1] h q := by
  intro x2 x3 x4 x5 s0 s1 h q e
  exact px_blk_ok (d := d + 1) (M := (pX_RX11, prog_13_method_95_code, 6, (some .int))) (C := mo_apart_orc) (code := mo_apart_code) (ld := [106, 107]) (kl := [(106, fun ls st h => px_if (px_fit [61, 1, 0, 1, 0, 0] ls && px_fits [1] st) (mo_apart_106 r11 (px_gi ls 1) (px_gi ls 3) (px_si st 0) h)), (107, fun ls st h => px_if (px_fit [61, 1, 0, 1, 0, 0] ls && px_fits [1, 1] st) (mo_apart_107 r11 (px_gi ls 1) (px_gi ls 3) (px_si st 0) (px_si st 1) h))]) (mo_apart_orc_ok) pX_ok_RX11 mo_apart_code_ok (px_k1 (px_ko (ts := [61, 1, 0, 1, 0, 0]) (ss := [1]) fun ls st h q e => mo_apart_106_ok hr11 _ _ _ _ _ e) (px_k1 (px_ko (ts := [61, 1, 0, 1, 0, 0]) (ss := [1, 1]) fun ls st h q e => mo_apart_107_ok hr11 _ _ _ _ _ _ e) px_k0)) 87 87 _ _ h q e
set_option maxRecDepth 200000 in
theorem mo_apart_86_ok {d : Nat} {r11 : Int32 → Int32 → Int32 → pH → pR} (hr11 : ∀ (x1 : Int32) (x2 : Int32) (x3 : Int32) (h : pH) (q : Int32 × pH), r11 x1 x2 x3 h = some q → px_G (d + 1 + 1) (pX_RX11, prog_13_method_95_code, 6, (some .int)) 11 [some (.inr (.inl 51)), some (.inl x1), some (.inl x2), some (.inl x3), none, none] [] h q) : ∀ (x2 : Int32) (x3 : Int32) (x4 : Int32) (x5 : Int32) (s0 : Int32) (h : pH) (q : Int32 × pH), mo_apart_86 r11 x2 x3 x4 x5 s0 h = some q → px_G (d + 1 + 1) (pX_RX11, prog_13_method_95_code, 6, (some .int)) 86 [some (.inr (.inl 51)), none, some (.inl x2), some (.inl x3), some (.inl x4), some (.inl x5)] [.inl s0] h q := by
  intro x2 x3 x4 x5 s0 h q e
  exact px_blk_ok (d := d + 1) (M := (pX_RX11, prog_13_method_95_code, 6, (some .int))) (C := mo_apart_orc) (code := mo_apart_code) (ld := [87]) (kl := [(87, fun ls st h => px_if (px_fit [61, 0, 1, 1, 1, 1] ls && px_fits [1, 1] st) (mo_apart_87 r11 (px_gi ls 2) (px_gi ls 3) (px_gi ls 4) (px_gi ls 5) (px_si st 0) (px_si st 1) h))]) (mo_apart_orc_ok) pX_ok_RX11 mo_apart_code_ok (px_k1 (px_ko (ts := [61, 0, 1, 1, 1, 1]) (ss := [1, 1]) fun ls st h q e => mo_apart_87_ok hr11 _ _ _ _ _ _ _ _ e) px_k0) 87 86 _ _ h q e
set_option maxRecDepth 200000 in
theorem mo_apart_67_ok {d : Nat} {r11 : Int32 → Int32 → Int32 → pH → pR} (hr11 : ∀ (x1 : Int32) (x2 : Int32) (x3 : Int32) (h : pH) (q : Int32 × pH), r11 x1 x2 x3 h = some q → px_G (d + 1 + 1) (pX_RX11, prog_13_method_95_code, 6, (some .int)) 11 [some (.inr (.inl 51)), some (.inl x1), some (.inl x2), some (.inl x3), none, none] [] h q) : ∀ (x1 : Int32) (x2 : Int32) (x3 : Int32) (x4 : Int32) (s0 : Int32) (h : pH) (q : Int32 × pH), mo_apart_67 r11 x1 x2 x3 x4 s0 h = some q → px_G (d + 1 + 1) (pX_RX11, prog_13_method_95_code, 6, (some .int)) 67 [some (.inr (.inl 51)), some (.inl x1), some (.inl x2), some (.inl x3), some (.inl x4), none] [.inl s0] h q := by
  intro x1 x2 x3 x4 s0 h q e
  exact px_blk_ok (d := d + 1) (M := (pX_RX11, prog_13_method_95_code, 6, (some .int))) (C := mo_apart_orc) (code := mo_apart_code) (ld := [86, 87]) (kl := [(86, fun ls st h => px_if (px_fit [61, 0, 1, 1, 1, 1] ls && px_fits [1] st) (mo_apart_86 r11 (px_gi ls 2) (px_gi ls 3) (px_gi ls 4) (px_gi ls 5) (px_si st 0) h)), (87, fun ls st h => px_if (px_fit [61, 0, 1, 1, 1, 1] ls && px_fits [1, 1] st) (mo_apart_87 r11 (px_gi ls 2) (px_gi ls 3) (px_gi ls 4) (px_gi ls 5) (px_si st 0) (px_si st 1) h))]) (mo_apart_orc_ok) pX_ok_RX11 mo_apart_code_ok (px_k1 (px_ko (ts := [61, 0, 1, 1, 1, 1]) (ss := [1]) fun ls st h q e => mo_apart_86_ok hr11 _ _ _ _ _ _ _ e) (px_k1 (px_ko (ts := [61, 0, 1, 1, 1, 1]) (ss := [1, 1]) fun ls st h q e => mo_apart_87_ok hr11 _ _ _ _ _ _ _ _ e) px_k0)) 87 67 _ _ h q e
set_option maxRecDepth 200000 in
theorem mo_apart_42_ok {d : Nat} {r11 : Int32 → Int32 → Int32 → pH → pR} (hr11 : ∀ (x1 : Int32) (x2 : Int32) (x3 : Int32) (h : pH) (q : Int32 × pH), r11 x1 x2 x3 h = some q → px_G (d + 1 + 1) (pX_RX11, prog_13_method_95_code, 6, (some .int)) 11 [some (.inr (.inl 51)), some (.inl x1), some (.inl x2), some (.inl x3), none, none] [] h q) : ∀ (x1 : Int32) (x2 : Int32) (x3 : Int32) (s0 : Int32) (h : pH) (q : Int32 × pH), mo_apart_42 r11 x1 x2 x3 s0 h = some q → px_G (d + 1 + 1) (pX_RX11, prog_13_method_95_code, 6, (some .int)) 42 [some (.inr (.inl 51)), some (.inl x1), some (.inl x2), some (.inl x3), none, none] [.inl s0] h q := by
  intro x1 x2 x3 s0 h q e
  exact px_blk_ok (d := d + 1) (M := (pX_RX11, prog_13_method_95_code, 6, (some .int))) (C := mo_apart_orc) (code := mo_apart_code) (ld := [67]) (kl := [(67, fun ls st h => px_if (px_fit [61, 1, 1, 1, 1, 0] ls && px_fits [1] st) (mo_apart_67 r11 (px_gi ls 1) (px_gi ls 2) (px_gi ls 3) (px_gi ls 4) (px_si st 0) h))]) (mo_apart_orc_ok) pX_ok_RX11 mo_apart_code_ok (px_k1 (px_ko (ts := [61, 1, 1, 1, 1, 0]) (ss := [1]) fun ls st h q e => mo_apart_67_ok hr11 _ _ _ _ _ _ _ e) px_k0) 87 42 _ _ h q e
set_option maxRecDepth 200000 in
theorem mo_apart_11_ok {d : Nat} : ∀ (n : Nat) (x1 : Int32) (x2 : Int32) (x3 : Int32) (h : pH) (q : Int32 × pH), mo_apart_11 n x1 x2 x3 h = some q → px_G (d + 1 + 1) (pX_RX11, prog_13_method_95_code, 6, (some .int)) 11 [some (.inr (.inl 51)), some (.inl x1), some (.inl x2), some (.inl x3), none, none] [] h q := by
  intro n
  induction n with
  | zero =>
    intro x1 x2 x3 h q e
    cases e
  | succ n ih =>
    intro x1 x2 x3 h q e
    exact px_blk_ok (d := d + 1) (M := (pX_RX11, prog_13_method_95_code, 6, (some .int))) (C := mo_apart_orc) (code := mo_apart_code) (ld := [42]) (kl := [(42, fun ls st h => px_if (px_fit [61, 1, 1, 1, 0, 0] ls && px_fits [1] st) (mo_apart_42 (mo_apart_11 n) (px_gi ls 1) (px_gi ls 2) (px_gi ls 3) (px_si st 0) h))]) (mo_apart_orc_ok) pX_ok_RX11 mo_apart_code_ok (px_k1 (px_ko (ts := [61, 1, 1, 1, 0, 0]) (ss := [1]) fun ls st h q e => mo_apart_42_ok ih _ _ _ _ _ _ e) px_k0) 87 11 _ _ h q e
set_option maxRecDepth 200000 in
theorem mo_apart_ok {d : Nat} {h : pH} {q : Int32 × pH} (e : mo_apart h = some q) : px_Con (d + 2) 267 [.inr (.inl 51)] h q :=
  px_con (X := pX_RX11) (b := prog_13_method_95_code) (nL := 6) (rt := (some .int)) rfl rfl (Nat.le_of_ble_eq_true rfl) rfl (px_blk_ok (d := d + 1) (M := (pX_RX11, prog_13_method_95_code, 6, (some .int))) (C := mo_apart_orc) (code := mo_apart_code) (ld := [11]) (kl := [(11, fun ls st h => px_if (px_fit [61, 1, 1, 1, 0, 0] ls && px_fits [] st) (mo_apart_11 px_F (px_gi ls 1) (px_gi ls 2) (px_gi ls 3) h))]) (mo_apart_orc_ok) pX_ok_RX11 mo_apart_code_ok (px_k1 (px_ko (ts := [61, 1, 1, 1, 0, 0]) (ss := []) fun ls st h q e => mo_apart_11_ok _ _ _ _ _ _ e) px_k0) 87 0 _ _ _ q e)
/-! WordsUnsaidModel.spared()I -/
noncomputable def mo_spared_115 (r14 : Int32 → Int32 → Int32 → pH → pR) (x1 : Int32) (x2 : Int32) (x3 : Int32) (h : pH) : pR :=
  r14 x1 x2 (x3 + px_c 1) h
noncomputable def mo_spared_90 (r14 : Int32 → Int32 → Int32 → pH → pR) (r31 : Int32 → Int32 → Int32 → Int32 → Int32 → Int32 → pH → pR) (x1 : Int32) (x2 : Int32) (x3 : Int32) (x4 : Int32) (x5 : Int32) (x6 : Int32) (h : pH) : pR :=
  r31 x1 x2 x3 x4 x5 (x6 + px_c 1) h
noncomputable def mo_spared_31 (r14 : Int32 → Int32 → Int32 → pH → pR) : Nat → Int32 → Int32 → Int32 → Int32 → Int32 → Int32 → pH → pR
  | 0, _, _, _, _, _, _, _ => none
  | n + 1, x1, x2, x3, x4, x5, x6, h =>
    if (h 51 6) ≤ x6 then
      if x5 = 0 then
        mo_spared_115 r14 x1 x2 x3 h
      else
        if x4 < x2 then
          mo_spared_115 r14 x3 x4 x3 h
        else
          mo_spared_115 r14 x1 x2 x3 h
    else
      px_if (px_ok 0 57 x6) <|
      if (h 57 x6.toNatClampNeg) = x3 then
        px_if (px_ok 0 52 ((px_c 42) + x6)) <|
        px_if (px_ok 0 52 ((px_c 32) + x6)) <|
        px_bind (jn_bitCount ((h 52 ((px_c 42) + x6).toNatClampNeg) &&& (((px_c 1) <<< ((h 52 ((px_c 32) + x6).toNatClampNeg) &&& 31)) ^^^ (px_c (-1)))) h) fun z1 h2 =>
        let y4_3 := x4 + z1
        mo_spared_90 r14 (mo_spared_31 r14 n) x1 x2 x3 y4_3 (px_c 1) x6 h2
      else
        mo_spared_90 r14 (mo_spared_31 r14 n) x1 x2 x3 x4 x5 x6 h
noncomputable def mo_spared_14 : Nat → Int32 → Int32 → Int32 → pH → pR
  | 0, _, _, _, _ => none
  | n + 1, x1, x2, x3, h =>
    if (h 51 4) ≤ x3 then
      if 0 ≤ x1 then
        let h1 := px_w h 51 13 (px_c 0)
        px_bind (mo_tell x2 h1) fun _ h3 =>
        some (x1, h3)
      else
        some (px_c (-2), h)
    else
      mo_spared_31 (mo_spared_14 n) px_F x1 x2 x3 (px_c 0) (px_c 0) (px_c 0) h
noncomputable def mo_spared (h : pH) : pR :=
  let h1 := px_w h 51 14 (px_c 0)
  let y2_2 := px_k 1000000
  mo_spared_14 px_F (px_c (-2)) y2_2 (px_c 0) h1
def mo_spared_code : pCode := [(0, .aload_n 0, 1), (1, .iconst 0, 1), (2, .putfield 106, 3), (5, .bipush (-2), 2), (7, .istore_n 1, 1), (8, .ldc_w 291, 3), (11, .istore_n 2, 1), (12, .iconst 0, 1), (13, .istore_n 3, 1), (14, .iload_n 3, 1), (15, .aload_n 0, 1), (16, .getfield 112, 3), (19, .if_icmp .ge (102), 3), (22, .iconst 0, 1), (23, .istore 4, 2), (25, .iconst 0, 1), (26, .istore 5, 2), (28, .iconst 0, 1), (29, .istore 6, 2), (31, .iload 6, 2), (33, .aload_n 0, 1), (34, .getfield 119, 3), (37, .if_icmp .ge (59), 3), (40, .aload_n 0, 1), (41, .getfield 29, 3), (44, .iload 6, 2), (46, .iaload, 1), (47, .iload_n 3, 1), (48, .if_icmp .eq (6), 3), (51, .goto (39), 3), (54, .iconst 1, 1), (55, .istore 5, 2), (57, .iload 4, 2), (59, .aload_n 0, 1), (60, .getfield 9, 3), (63, .bipush (42), 2), (65, .iload 6, 2), (67, .iadd, 1), (68, .iaload, 1), (69, .iconst 1, 1), (70, .aload_n 0, 1), (71, .getfield 9, 3), (74, .bipush (32), 2), (76, .iload 6, 2), (78, .iadd, 1), (79, .iaload, 1), (80, .ishl, 1), (81, .iconst (-1), 1), (82, .ixor, 1), (83, .iand, 1), (84, .invokestatic 222, 3), (87, .iadd, 1), (88, .istore 4, 2), (90, .iinc 6 (1), 3), (93, .goto (-62), 3), (96, .iload 5, 2), (98, .ifCond .eq (17), 3), (101, .iload 4, 2), (103, .iload_n 2, 1), (104, .if_icmp .lt (6), 3), (107, .goto (8), 3), (110, .iload_n 3, 1), (111, .istore_n 1, 1), (112, .iload 4, 2), (114, .istore_n 2, 1), (115, .iinc 3 (1), 3), (118, .goto (-104), 3), (121, .iload_n 1, 1), (122, .ifCond .ge (6), 3), (125, .bipush (-2), 2), (127, .ireturn, 1), (128, .aload_n 0, 1), (129, .iconst 0, 1), (130, .putfield 109, 3), (133, .aload_n 0, 1), (134, .iload_n 2, 1), (135, .invokevirtual 312, 3), (138, .iload_n 1, 1), (139, .ireturn, 1)]
set_option maxRecDepth 200000 in
theorem mo_spared_code_ok : px_code prog_13_method_96_code mo_spared_code = true := by decide +kernel
noncomputable def mo_spared_orc : pC := px_orc [(279, fun a h => match a with
    | [.inl v0] => jn_bitCount v0 h
    | _ => none), (178, fun a h => match a with
    | [.inr (.inl 51), .inl v1] => mo_tell v1 h
    | _ => none)]
theorem mo_spared_orc_ok {d : Nat} : px_Or (d + 1) (mo_spared_orc) := px_orc_ok (by
  refine px_o1 (fun a h q e => by
    dsimp only at e
    split at e
    · exact jn_bitCount_ok (d := d + 0) e
    · cases e) ?_
  refine px_o1 (fun a h q e => by
    dsimp only at e
    split at e
    · exact mo_tell_ok (d := d + 0) e
    · cases e) ?_
  exact px_o0)
set_option maxRecDepth 200000 in
theorem mo_spared_115_ok {d : Nat} {r14 : Int32 → Int32 → Int32 → pH → pR} (hr14 : ∀ (x1 : Int32) (x2 : Int32) (x3 : Int32) (h : pH) (q : Int32 × pH), r14 x1 x2 x3 h = some q → px_G (d + 1 + 1) (pX_RX11, prog_13_method_96_code, 7, (some .int)) 14 [some (.inr (.inl 51)), some (.inl x1), some (.inl x2), some (.inl x3), none, none, none] [] h q) : ∀ (x1 : Int32) (x2 : Int32) (x3 : Int32) (h : pH) (q : Int32 × pH), mo_spared_115 r14 x1 x2 x3 h = some q → px_G (d + 1 + 1) (pX_RX11, prog_13_method_96_code, 7, (some .int)) 115 [some (.inr (.inl 51)), some (.inl x1), some (.inl x2), some (.inl x3), none, none, none] [] h q := by
  intro x1 x2 x3 h q e
  exact px_blk_ok (d := d + 1) (M := (pX_RX11, prog_13_method_96_code, 7, (some .int))) (C := mo_spared_orc) (code := mo_spared_code) (ld := [14]) (kl := [(14, fun ls st h => px_if (px_fit [61, 1, 1, 1, 0, 0, 0] ls && px_fits [] st) (r14 (px_gi ls 1) (px_gi ls 2) (px_gi ls 3) h))]) (mo_spared_orc_ok) pX_ok_RX11 mo_spared_code_ok (px_k1 (px_ko (ts := [61, 1, 1, 1, 0, 0, 0]) (ss := []) fun ls st h q e => hr14 _ _ _ _ _ e) px_k0) 84 115 _ _ h q e
set_option maxRecDepth 200000 in
theorem mo_spared_90_ok {d : Nat} {r14 : Int32 → Int32 → Int32 → pH → pR} (hr14 : ∀ (x1 : Int32) (x2 : Int32) (x3 : Int32) (h : pH) (q : Int32 × pH), r14 x1 x2 x3 h = some q → px_G (d + 1 + 1) (pX_RX11, prog_13_method_96_code, 7, (some .int)) 14 [some (.inr (.inl 51)), some (.inl x1), some (.inl x2), some (.inl x3), none, none, none] [] h q) {r31 : Int32 → Int32 → Int32 → Int32 → Int32 → Int32 → pH → pR} (hr31 : ∀ (x1 : Int32) (x2 : Int32) (x3 : Int32) (x4 : Int32) (x5 : Int32) (x6 : Int32) (h : pH) (q : Int32 × pH), r31 x1 x2 x3 x4 x5 x6 h = some q → px_G (d + 1 + 1) (pX_RX11, prog_13_method_96_code, 7, (some .int)) 31 [some (.inr (.inl 51)), some (.inl x1), some (.inl x2), some (.inl x3), some (.inl x4), some (.inl x5), some (.inl x6)] [] h q) : ∀ (x1 : Int32) (x2 : Int32) (x3 : Int32) (x4 : Int32) (x5 : Int32) (x6 : Int32) (h : pH) (q : Int32 × pH), mo_spared_90 r14 r31 x1 x2 x3 x4 x5 x6 h = some q → px_G (d + 1 + 1) (pX_RX11, prog_13_method_96_code, 7, (some .int)) 90 [some (.inr (.inl 51)), some (.inl x1), some (.inl x2), some (.inl x3), some (.inl x4), some (.inl x5), some (.inl x6)] [] h q := by
  intro x1 x2 x3 x4 x5 x6 h q e
  exact px_blk_ok (d := d + 1) (M := (pX_RX11, prog_13_method_96_code, 7, (some .int))) (C := mo_spared_orc) (code := mo_spared_code) (ld := [31]) (kl := [(31, fun ls st h => px_if (px_fit [61, 1, 1, 1, 1, 1, 1] ls && px_fits [] st) (r31 (px_gi ls 1) (px_gi ls 2) (px_gi ls 3) (px_gi ls 4) (px_gi ls 5) (px_gi ls 6) h))]) (mo_spared_orc_ok) pX_ok_RX11 mo_spared_code_ok (px_k1 (px_ko (ts := [61, 1, 1, 1, 1, 1, 1]) (ss := []) fun ls st h q e => hr31 _ _ _ _ _ _ _ _ e) px_k0) 84 90 _ _ h q e
set_option maxRecDepth 200000 in
theorem mo_spared_31_ok {d : Nat} {r14 : Int32 → Int32 → Int32 → pH → pR} (hr14 : ∀ (x1 : Int32) (x2 : Int32) (x3 : Int32) (h : pH) (q : Int32 × pH), r14 x1 x2 x3 h = some q → px_G (d + 1 + 1) (pX_RX11, prog_13_method_96_code, 7, (some .int)) 14 [some (.inr (.inl 51)), some (.inl x1), some (.inl x2), some (.inl x3), none, none, none] [] h q) : ∀ (n : Nat) (x1 : Int32) (x2 : Int32) (x3 : Int32) (x4 : Int32) (x5 : Int32) (x6 : Int32) (h : pH) (q : Int32 × pH), mo_spared_31 r14 n x1 x2 x3 x4 x5 x6 h = some q → px_G (d + 1 + 1) (pX_RX11, prog_13_method_96_code, 7, (some .int)) 31 [some (.inr (.inl 51)), some (.inl x1), some (.inl x2), some (.inl x3), some (.inl x4), some (.inl x5), some (.inl x6)] [] h q := by
  intro n
  induction n with
  | zero =>
    intro x1 x2 x3 x4 x5 x6 h q e
    cases e
  | succ n ih =>
    intro x1 x2 x3 x4 x5 x6 h q e
    exact px_blk_ok (d := d + 1) (M := (pX_RX11, prog_13_method_96_code, 7, (some .int))) (C := mo_spared_orc) (code := mo_spared_code) (ld := [90, 115]) (kl := [(90, fun ls st h => px_if (px_fit [61, 1, 1, 1, 1, 1, 1] ls && px_fits [] st) (mo_spared_90 r14 (mo_spared_31 r14 n) (px_gi ls 1) (px_gi ls 2) (px_gi ls 3) (px_gi ls 4) (px_gi ls 5) (px_gi ls 6) h)), (115, fun ls st h => px_if (px_fit [61, 1, 1, 1, 0, 0, 0] ls && px_fits [] st) (mo_spared_115 r14 (px_gi ls 1) (px_gi ls 2) (px_gi ls 3) h))]) (mo_spared_orc_ok) pX_ok_RX11 mo_spared_code_ok (px_k1 (px_ko (ts := [61, 1, 1, 1, 1, 1, 1]) (ss := []) fun ls st h q e => mo_spared_90_ok hr14 ih _ _ _ _ _ _ _ _ e) (px_k1 (px_ko (ts := [61, 1, 1, 1, 0, 0, 0]) (ss := []) fun ls st h q e => mo_spared_115_ok hr14 _ _ _ _ _ e) px_k0)) 84 31 _ _ h q e
set_option maxRecDepth 200000 in
theorem mo_spared_14_ok {d : Nat} : ∀ (n : Nat) (x1 : Int32) (x2 : Int32) (x3 : Int32) (h : pH) (q : Int32 × pH), mo_spared_14 n x1 x2 x3 h = some q → px_G (d + 1 + 1) (pX_RX11, prog_13_method_96_code, 7, (some .int)) 14 [some (.inr (.inl 51)), some (.inl x1), some (.inl x2), some (.inl x3), none, none, none] [] h q := by
  intro n
  induction n with
  | zero =>
    intro x1 x2 x3 h q e
    cases e
  | succ n ih =>
    intro x1 x2 x3 h q e
    exact px_blk_ok (d := d + 1) (M := (pX_RX11, prog_13_method_96_code, 7, (some .int))) (C := mo_spared_orc) (code := mo_spared_code) (ld := [31]) (kl := [(31, fun ls st h => px_if (px_fit [61, 1, 1, 1, 1, 1, 1] ls && px_fits [] st) (mo_spared_31 (mo_spared_14 n) px_F (px_gi ls 1) (px_gi ls 2) (px_gi ls 3) (px_gi ls 4) (px_gi ls 5) (px_gi ls 6) h))]) (mo_spared_orc_ok) pX_ok_RX11 mo_spared_code_ok (px_k1 (px_ko (ts := [61, 1, 1, 1, 1, 1, 1]) (ss := []) fun ls st h q e => mo_spared_31_ok ih _ _ _ _ _ _ _ _ _ e) px_k0) 84 14 _ _ h q e
set_option maxRecDepth 200000 in
theorem mo_spared_ok {d : Nat} {h : pH} {q : Int32 × pH} (e : mo_spared h = some q) : px_Con (d + 2) 268 [.inr (.inl 51)] h q :=
  px_con (X := pX_RX11) (b := prog_13_method_96_code) (nL := 7) (rt := (some .int)) rfl rfl (Nat.le_of_ble_eq_true rfl) rfl (px_blk_ok (d := d + 1) (M := (pX_RX11, prog_13_method_96_code, 7, (some .int))) (C := mo_spared_orc) (code := mo_spared_code) (ld := [14]) (kl := [(14, fun ls st h => px_if (px_fit [61, 1, 1, 1, 0, 0, 0] ls && px_fits [] st) (mo_spared_14 px_F (px_gi ls 1) (px_gi ls 2) (px_gi ls 3) h))]) (mo_spared_orc_ok) pX_ok_RX11 mo_spared_code_ok (px_k1 (px_ko (ts := [61, 1, 1, 1, 0, 0, 0]) (ss := []) fun ls st h q e => mo_spared_14_ok _ _ _ _ _ _ e) px_k0) 84 0 _ _ _ q e)
/-! WordsUnsaidModel.findShore(II)Z -/
noncomputable def mo_findShore_32 (h : pH) : pR :=
  px_bz (px_c 0) h
noncomputable def mo_findShore_66 : Nat → Int32 → pH → pR
  | 0, _, _ => none
  | n + 1, x3, h =>
    if (px_c 3) < x3 then
      px_bz (px_c 1) h
    else
      px_bind (mo_goRows x3 (px_c 2) h) fun z1 h2 =>
      mo_findShore_66 n (x3 + px_c 1) h2
noncomputable def mo_findShore (x1 : Int32) (x2 : Int32) (h : pH) : pR :=
  px_bind (mo_isPerson x1 h) fun z1 h2 =>
  if z1 = 0 then
    mo_findShore_32 h2
  else
    px_if (px_ok 0 52 x1) <|
    if (px_c 1) < (h2 52 x1.toNatClampNeg) then
      mo_findShore_32 h2
    else
      px_bind (mo_in x2 (px_c 0) ((h2 51 2) - (px_c 1)) h2) fun z3 h4 =>
      if z3 = 0 then
        mo_findShore_32 h4
      else
        let h5 := px_w h4 51 44 x2
        px_if (px_ok 0 52 x1) <|
        px_if (px_ok 0 52 x1) <|
        px_bind (mo_beginRows 52 ((px_c 1) <<< (x1 &&& 31)) (h5 52 x1.toNatClampNeg) ((px_c 1) - (h5 52 x1.toNatClampNeg)) h5) fun _ h7 =>
        mo_findShore_66 px_F (px_c 1) h7
def mo_findShore_code : pCode := [(0, .aload_n 0, 1), (1, .iload_n 1, 1), (2, .invokevirtual 122, 3), (5, .ifCond .eq (27), 3), (8, .aload_n 0, 1), (9, .getfield 9, 3), (12, .iload_n 1, 1), (13, .iaload, 1), (14, .iconst 1, 1), (15, .if_icmp .gt (17), 3), (18, .iload_n 2, 1), (19, .iconst 0, 1), (20, .aload_n 0, 1), (21, .getfield 126, 3), (24, .iconst 1, 1), (25, .isub, 1), (26, .invokestatic 115, 3), (29, .ifCond .ne (5), 3), (32, .iconst 0, 1), (33, .ireturn, 1), (34, .aload_n 0, 1), (35, .iload_n 2, 1), (36, .putfield 398, 3), (39, .aload_n 0, 1), (40, .aload_n 0, 1), (41, .getfield 9, 3), (44, .iconst 1, 1), (45, .iload_n 1, 1), (46, .ishl, 1), (47, .aload_n 0, 1), (48, .getfield 9, 3), (51, .iload_n 1, 1), (52, .iaload, 1), (53, .iconst 1, 1), (54, .aload_n 0, 1), (55, .getfield 9, 3), (58, .iload_n 1, 1), (59, .iaload, 1), (60, .isub, 1), (61, .invokevirtual 407, 3), (64, .iconst 1, 1), (65, .istore_n 3, 1), (66, .iload_n 3, 1), (67, .iconst 3, 1), (68, .if_icmp .gt (16), 3), (71, .aload_n 0, 1), (72, .iload_n 3, 1), (73, .iconst 2, 1), (74, .invokevirtual 411, 3), (77, .pop, 1), (78, .iinc 3 (1), 3), (81, .goto (-15), 3), (84, .iconst 1, 1), (85, .ireturn, 1)]
set_option maxRecDepth 200000 in
theorem mo_findShore_code_ok : px_code prog_13_method_97_code mo_findShore_code = true := by decide +kernel
noncomputable def mo_findShore_orc : pC := px_orc [(249, fun a h => match a with
    | [.inr (.inl 51), .inl v1, .inl v2] => mo_goRows v1 v2 h
    | _ => none), (179, fun a h => match a with
    | [.inr (.inl 51), .inl v1] => mo_isPerson v1 h
    | _ => none), (175, fun a h => match a with
    | [.inl v0, .inl v1, .inl v2] => mo_in v0 v1 v2 h
    | _ => none), (248, fun a h => match a with
    | [.inr (.inl 51), .inr (.inl v1), .inl v2, .inl v3, .inl v4] => mo_beginRows v1 v2 v3 v4 h
    | _ => none)]
theorem mo_findShore_orc_ok {d : Nat} : px_Or (d + 118) (mo_findShore_orc) := px_orc_ok (by
  refine px_o1 (fun a h q e => by
    dsimp only at e
    split at e
    · exact mo_goRows_ok (d := d + 0) e
    · cases e) ?_
  refine px_o1 (fun a h q e => by
    dsimp only at e
    split at e
    · exact mo_isPerson_ok (d := d + 116) e
    · cases e) ?_
  refine px_o1 (fun a h q e => by
    dsimp only at e
    split at e
    · exact mo_in_ok (d := d + 117) e
    · cases e) ?_
  refine px_o1 (fun a h q e => by
    dsimp only at e
    split at e
    · exact mo_beginRows_ok (d := d + 116) e
    · cases e) ?_
  exact px_o0)
set_option maxRecDepth 200000 in
theorem mo_findShore_32_ok {d : Nat} : ∀ (h : pH) (q : Int32 × pH), mo_findShore_32 h = some q → px_G (d + 118 + 1) (pX_RX11, prog_13_method_97_code, 4, (some .boolean)) 32 [none, none, none, none] [] h q := by
  intro h q e
  exact px_blk_ok (d := d + 118) (M := (pX_RX11, prog_13_method_97_code, 4, (some .boolean))) (C := mo_findShore_orc) (code := mo_findShore_code) (ld := []) (kl := []) (mo_findShore_orc_ok) pX_ok_RX11 mo_findShore_code_ok (px_k0) 59 32 _ _ h q e
set_option maxRecDepth 200000 in
theorem mo_findShore_66_ok {d : Nat} : ∀ (n : Nat) (x3 : Int32) (h : pH) (q : Int32 × pH), mo_findShore_66 n x3 h = some q → px_G (d + 118 + 1) (pX_RX11, prog_13_method_97_code, 4, (some .boolean)) 66 [some (.inr (.inl 51)), none, none, some (.inl x3)] [] h q := by
  intro n
  induction n with
  | zero =>
    intro x3 h q e
    cases e
  | succ n ih =>
    intro x3 h q e
    exact px_blk_ok (d := d + 118) (M := (pX_RX11, prog_13_method_97_code, 4, (some .boolean))) (C := mo_findShore_orc) (code := mo_findShore_code) (ld := [66]) (kl := [(66, fun ls st h => px_if (px_fit [61, 0, 0, 1] ls && px_fits [] st) (mo_findShore_66 n (px_gi ls 3) h))]) (mo_findShore_orc_ok) pX_ok_RX11 mo_findShore_code_ok (px_k1 (px_ko (ts := [61, 0, 0, 1]) (ss := []) fun ls st h q e => ih _ _ _ e) px_k0) 59 66 _ _ h q e
set_option maxRecDepth 200000 in
theorem mo_findShore_ok {d : Nat} {x1 : Int32} {x2 : Int32} {h : pH} {q : Int32 × pH} (e : mo_findShore x1 x2 h = some q) : px_Con (d + 119) 269 [.inr (.inl 51), .inl x1, .inl x2] h q :=
  px_con (X := pX_RX11) (b := prog_13_method_97_code) (nL := 4) (rt := (some .boolean)) rfl rfl (Nat.le_of_ble_eq_true rfl) rfl (px_blk_ok (d := d + 118) (M := (pX_RX11, prog_13_method_97_code, 4, (some .boolean))) (C := mo_findShore_orc) (code := mo_findShore_code) (ld := [66, 32]) (kl := [(66, fun ls st h => px_if (px_fit [61, 0, 0, 1] ls && px_fits [] st) (mo_findShore_66 px_F (px_gi ls 3) h)), (32, fun ls st h => px_if (px_fit [0, 0, 0, 0] ls && px_fits [] st) (mo_findShore_32 h))]) (mo_findShore_orc_ok) pX_ok_RX11 mo_findShore_code_ok (px_k1 (px_ko (ts := [61, 0, 0, 1]) (ss := []) fun ls st h q e => mo_findShore_66_ok _ _ _ _ e) (px_k1 (px_ko (ts := [0, 0, 0, 0]) (ss := []) fun ls st h q e => mo_findShore_32_ok _ _ e) px_k0)) 59 0 _ _ _ q e)
/-! WordsUnsaidModel.ashore(II)I -/
noncomputable def mo_ashore_54 (h : pH) : pR :=
  some (h 51 47, h)
noncomputable def mo_ashore_23 : Nat → Int32 → pH → pR
  | 0, _, _ => none
  | n + 1, x3, h =>
    if (h 51 50) ≤ x3 then
      mo_ashore_54 h
    else
      if (h 51 47) ≤ 0 then
        mo_ashore_54 h
      else
        px_if (px_ok 0 72 x3) <|
        px_bind (mo_tell (h 72 x3.toNatClampNeg) h) fun _ h2 =>
        mo_ashore_23 n (x3 + px_c 1) h2
noncomputable def mo_ashore (x1 : Int32) (x2 : Int32) (h : pH) : pR :=
  let h1 := px_w h 51 14 (px_c 0)
  px_bind (mo_findShore x1 x2 h1) fun z2 h3 =>
  if z2 = 0 then
    some (px_c (-1), h3)
  else
    let h4 := px_w h3 51 13 (px_c 0)
    mo_ashore_23 px_F (px_c 0) h4
def mo_ashore_code : pCode := [(0, .aload_n 0, 1), (1, .iconst 0, 1), (2, .putfield 106, 3), (5, .aload_n 0, 1), (6, .iload_n 1, 1), (7, .iload_n 2, 1), (8, .invokevirtual 446, 3), (11, .ifCond .ne (5), 3), (14, .iconst (-1), 1), (15, .ireturn, 1), (16, .aload_n 0, 1), (17, .iconst 0, 1), (18, .putfield 109, 3), (21, .iconst 0, 1), (22, .istore_n 3, 1), (23, .iload_n 3, 1), (24, .aload_n 0, 1), (25, .getfield 404, 3), (28, .if_icmp .ge (26), 3), (31, .aload_n 0, 1), (32, .getfield 386, 3), (35, .ifCond .le (19), 3), (38, .aload_n 0, 1), (39, .aload_n 0, 1), (40, .getfield 75, 3), (43, .iload_n 3, 1), (44, .iaload, 1), (45, .invokevirtual 312, 3), (48, .iinc 3 (1), 3), (51, .goto (-28), 3), (54, .aload_n 0, 1), (55, .getfield 386, 3), (58, .ireturn, 1)]
set_option maxRecDepth 200000 in
theorem mo_ashore_code_ok : px_code prog_13_method_98_code mo_ashore_code = true := by decide +kernel
noncomputable def mo_ashore_orc : pC := px_orc [(178, fun a h => match a with
    | [.inr (.inl 51), .inl v1] => mo_tell v1 h
    | _ => none), (269, fun a h => match a with
    | [.inr (.inl 51), .inl v1, .inl v2] => mo_findShore v1 v2 h
    | _ => none)]
theorem mo_ashore_orc_ok {d : Nat} : px_Or (d + 119) (mo_ashore_orc) := px_orc_ok (by
  refine px_o1 (fun a h q e => by
    dsimp only at e
    split at e
    · exact mo_tell_ok (d := d + 118) e
    · cases e) ?_
  refine px_o1 (fun a h q e => by
    dsimp only at e
    split at e
    · exact mo_findShore_ok (d := d + 0) e
    · cases e) ?_
  exact px_o0)
set_option maxRecDepth 200000 in
theorem mo_ashore_54_ok {d : Nat} : ∀ (h : pH) (q : Int32 × pH), mo_ashore_54 h = some q → px_G (d + 119 + 1) (pX_RX11, prog_13_method_98_code, 4, (some .int)) 54 [some (.inr (.inl 51)), none, none, none] [] h q := by
  intro h q e
  exact px_blk_ok (d := d + 119) (M := (pX_RX11, prog_13_method_98_code, 4, (some .int))) (C := mo_ashore_orc) (code := mo_ashore_code) (ld := []) (kl := []) (mo_ashore_orc_ok) pX_ok_RX11 mo_ashore_code_ok (px_k0) 38 54 _ _ h q e
set_option maxRecDepth 200000 in
theorem mo_ashore_23_ok {d : Nat} : ∀ (n : Nat) (x3 : Int32) (h : pH) (q : Int32 × pH), mo_ashore_23 n x3 h = some q → px_G (d + 119 + 1) (pX_RX11, prog_13_method_98_code, 4, (some .int)) 23 [some (.inr (.inl 51)), none, none, some (.inl x3)] [] h q := by
  intro n
  induction n with
  | zero =>
    intro x3 h q e
    cases e
  | succ n ih =>
    intro x3 h q e
    exact px_blk_ok (d := d + 119) (M := (pX_RX11, prog_13_method_98_code, 4, (some .int))) (C := mo_ashore_orc) (code := mo_ashore_code) (ld := [23, 54]) (kl := [(23, fun ls st h => px_if (px_fit [61, 0, 0, 1] ls && px_fits [] st) (mo_ashore_23 n (px_gi ls 3) h)), (54, fun ls st h => px_if (px_fit [61, 0, 0, 0] ls && px_fits [] st) (mo_ashore_54 h))]) (mo_ashore_orc_ok) pX_ok_RX11 mo_ashore_code_ok (px_k1 (px_ko (ts := [61, 0, 0, 1]) (ss := []) fun ls st h q e => ih _ _ _ e) (px_k1 (px_ko (ts := [61, 0, 0, 0]) (ss := []) fun ls st h q e => mo_ashore_54_ok _ _ e) px_k0)) 38 23 _ _ h q e
set_option maxRecDepth 200000 in
theorem mo_ashore_ok {d : Nat} {x1 : Int32} {x2 : Int32} {h : pH} {q : Int32 × pH} (e : mo_ashore x1 x2 h = some q) : px_Con (d + 120) 270 [.inr (.inl 51), .inl x1, .inl x2] h q :=
  px_con (X := pX_RX11) (b := prog_13_method_98_code) (nL := 4) (rt := (some .int)) rfl rfl (Nat.le_of_ble_eq_true rfl) rfl (px_blk_ok (d := d + 119) (M := (pX_RX11, prog_13_method_98_code, 4, (some .int))) (C := mo_ashore_orc) (code := mo_ashore_code) (ld := [23]) (kl := [(23, fun ls st h => px_if (px_fit [61, 0, 0, 1] ls && px_fits [] st) (mo_ashore_23 px_F (px_gi ls 3) h))]) (mo_ashore_orc_ok) pX_ok_RX11 mo_ashore_code_ok (px_k1 (px_ko (ts := [61, 0, 0, 1]) (ss := []) fun ls st h q e => mo_ashore_23_ok _ _ _ _ e) px_k0) 38 0 _ _ _ q e)
/-! WordsUnsaidModel.about(II)I -/
noncomputable def mo_about_66 (r26 : Int32 → Int32 → pH → pR) (x3 : Int32) (x4 : Int32) (h : pH) : pR :=
  r26 x3 (x4 + px_c 1) h
noncomputable def mo_about_26 : Nat → Int32 → Int32 → pH → pR
  | 0, _, _, _ => none
  | n + 1, x3, x4, h =>
    if (h 51 6) ≤ x4 then
      some (x3, h)
    else
      px_if (px_ok 0 71 x4) <|
      if (h 71 x4.toNatClampNeg) = 0 then
        mo_about_66 (mo_about_26 n) x3 x4 h
      else
        let y3_1 := x3 ||| ((px_c 1) <<< (x4 &&& 31))
        px_if (px_ok 0 71 x4) <|
        px_bind (mo_tell (h 71 x4.toNatClampNeg) h) fun _ h3 =>
        mo_about_66 (mo_about_26 n) y3_1 x4 h3
noncomputable def mo_about (x1 : Int32) (x2 : Int32) (h : pH) : pR :=
  let h1 := px_w h 51 14 (px_c 0)
  px_bind (mo_findShore x1 x2 h1) fun z2 h3 =>
  if z2 = 0 then
    some (px_c (-1), h3)
  else
    let h4 := px_w h3 51 13 (px_c 0)
    mo_about_26 px_F (px_c 0) (px_c 0) h4
def mo_about_code : pCode := [(0, .aload_n 0, 1), (1, .iconst 0, 1), (2, .putfield 106, 3), (5, .aload_n 0, 1), (6, .iload_n 1, 1), (7, .iload_n 2, 1), (8, .invokevirtual 446, 3), (11, .ifCond .ne (5), 3), (14, .iconst (-1), 1), (15, .ireturn, 1), (16, .iconst 0, 1), (17, .istore_n 3, 1), (18, .aload_n 0, 1), (19, .iconst 0, 1), (20, .putfield 109, 3), (23, .iconst 0, 1), (24, .istore 4, 2), (26, .iload 4, 2), (28, .aload_n 0, 1), (29, .getfield 119, 3), (32, .if_icmp .ge (40), 3), (35, .aload_n 0, 1), (36, .getfield 72, 3), (39, .iload 4, 2), (41, .iaload, 1), (42, .ifCond .ne (6), 3), (45, .goto (21), 3), (48, .iload_n 3, 1), (49, .iconst 1, 1), (50, .iload 4, 2), (52, .ishl, 1), (53, .ior, 1), (54, .istore_n 3, 1), (55, .aload_n 0, 1), (56, .aload_n 0, 1), (57, .getfield 72, 3), (60, .iload 4, 2), (62, .iaload, 1), (63, .invokevirtual 312, 3), (66, .iinc 4 (1), 3), (69, .goto (-43), 3), (72, .iload_n 3, 1), (73, .ireturn, 1)]
set_option maxRecDepth 200000 in
theorem mo_about_code_ok : px_code prog_13_method_99_code mo_about_code = true := by decide +kernel
noncomputable def mo_about_orc : pC := px_orc [(178, fun a h => match a with
    | [.inr (.inl 51), .inl v1] => mo_tell v1 h
    | _ => none), (269, fun a h => match a with
    | [.inr (.inl 51), .inl v1, .inl v2] => mo_findShore v1 v2 h
    | _ => none)]
theorem mo_about_orc_ok {d : Nat} : px_Or (d + 119) (mo_about_orc) := px_orc_ok (by
  refine px_o1 (fun a h q e => by
    dsimp only at e
    split at e
    · exact mo_tell_ok (d := d + 118) e
    · cases e) ?_
  refine px_o1 (fun a h q e => by
    dsimp only at e
    split at e
    · exact mo_findShore_ok (d := d + 0) e
    · cases e) ?_
  exact px_o0)
set_option maxRecDepth 200000 in
theorem mo_about_66_ok {d : Nat} {r26 : Int32 → Int32 → pH → pR} (hr26 : ∀ (x3 : Int32) (x4 : Int32) (h : pH) (q : Int32 × pH), r26 x3 x4 h = some q → px_G (d + 119 + 1) (pX_RX11, prog_13_method_99_code, 5, (some .int)) 26 [some (.inr (.inl 51)), none, none, some (.inl x3), some (.inl x4)] [] h q) : ∀ (x3 : Int32) (x4 : Int32) (h : pH) (q : Int32 × pH), mo_about_66 r26 x3 x4 h = some q → px_G (d + 119 + 1) (pX_RX11, prog_13_method_99_code, 5, (some .int)) 66 [some (.inr (.inl 51)), none, none, some (.inl x3), some (.inl x4)] [] h q := by
  intro x3 x4 h q e
  exact px_blk_ok (d := d + 119) (M := (pX_RX11, prog_13_method_99_code, 5, (some .int))) (C := mo_about_orc) (code := mo_about_code) (ld := [26]) (kl := [(26, fun ls st h => px_if (px_fit [61, 0, 0, 1, 1] ls && px_fits [] st) (r26 (px_gi ls 3) (px_gi ls 4) h))]) (mo_about_orc_ok) pX_ok_RX11 mo_about_code_ok (px_k1 (px_ko (ts := [61, 0, 0, 1, 1]) (ss := []) fun ls st h q e => hr26 _ _ _ _ e) px_k0) 48 66 _ _ h q e
set_option maxRecDepth 200000 in
theorem mo_about_26_ok {d : Nat} : ∀ (n : Nat) (x3 : Int32) (x4 : Int32) (h : pH) (q : Int32 × pH), mo_about_26 n x3 x4 h = some q → px_G (d + 119 + 1) (pX_RX11, prog_13_method_99_code, 5, (some .int)) 26 [some (.inr (.inl 51)), none, none, some (.inl x3), some (.inl x4)] [] h q := by
  intro n
  induction n with
  | zero =>
    intro x3 x4 h q e
    cases e
  | succ n ih =>
    intro x3 x4 h q e
    exact px_blk_ok (d := d + 119) (M := (pX_RX11, prog_13_method_99_code, 5, (some .int))) (C := mo_about_orc) (code := mo_about_code) (ld := [66]) (kl := [(66, fun ls st h => px_if (px_fit [61, 0, 0, 1, 1] ls && px_fits [] st) (mo_about_66 (mo_about_26 n) (px_gi ls 3) (px_gi ls 4) h))]) (mo_about_orc_ok) pX_ok_RX11 mo_about_code_ok (px_k1 (px_ko (ts := [61, 0, 0, 1, 1]) (ss := []) fun ls st h q e => mo_about_66_ok ih _ _ _ _ e) px_k0) 48 26 _ _ h q e
set_option maxRecDepth 200000 in
theorem mo_about_ok {d : Nat} {x1 : Int32} {x2 : Int32} {h : pH} {q : Int32 × pH} (e : mo_about x1 x2 h = some q) : px_Con (d + 120) 271 [.inr (.inl 51), .inl x1, .inl x2] h q :=
  px_con (X := pX_RX11) (b := prog_13_method_99_code) (nL := 5) (rt := (some .int)) rfl rfl (Nat.le_of_ble_eq_true rfl) rfl (px_blk_ok (d := d + 119) (M := (pX_RX11, prog_13_method_99_code, 5, (some .int))) (C := mo_about_orc) (code := mo_about_code) (ld := [26]) (kl := [(26, fun ls st h => px_if (px_fit [61, 0, 0, 1, 1] ls && px_fits [] st) (mo_about_26 px_F (px_gi ls 3) (px_gi ls 4) h))]) (mo_about_orc_ok) pX_ok_RX11 mo_about_code_ok (px_k1 (px_ko (ts := [61, 0, 0, 1, 1]) (ss := []) fun ls st h q e => mo_about_26_ok _ _ _ _ _ e) px_k0) 48 0 _ _ _ q e)
/-! WordsUnsaidModel.bargain(II)I -/
noncomputable def mo_bargain_29 (h : pH) : pR :=
  some (px_c (-1), h)
noncomputable def mo_bargain_102 (r37 : Int32 → Int32 → Int32 → Int32 → pH → pR) (x1 : Int32) (x2 : Int32) (x3 : Int32) (x4 : Int32) (h : pH) : pR :=
  r37 x1 x2 x3 (x4 + px_c 1) h
noncomputable def mo_bargain_99 (r37 : Int32 → Int32 → Int32 → Int32 → pH → pR) (x1 : Int32) (x2 : Int32) (x4 : Int32) (h : pH) : pR :=
  mo_bargain_102 r37 x1 x2 x4 x4 h
noncomputable def mo_bargain_37 : Nat → Int32 → Int32 → Int32 → Int32 → pH → pR
  | 0, _, _, _, _, _ => none
  | n + 1, x1, x2, x3, x4, h =>
    if (h 51 6) ≤ x4 then
      if 0 ≤ x3 then
        let h1 := px_w h 51 13 (px_c 0)
        px_bind (mo_priceOf x3 h1) fun z2 h3 =>
        px_bind (mo_tell z2 h3) fun _ h5 =>
        px_if (px_ok 0 52 ((px_c 12) + x3)) <|
        px_bind (mo_tell (h5 52 ((px_c 12) + x3).toNatClampNeg) h5) fun _ h7 =>
        some (x3, h7)
      else
        some (px_c (-2), h)
    else
      px_bind (mo_refusesSell x1 x2 x4 h) fun z8 h9 =>
      if 0 ≤ z8 then
        if x3 < 0 then
          mo_bargain_99 (mo_bargain_37 n) x1 x2 x4 h9
        else
          px_if (px_ok 0 52 ((px_c 12) + x4)) <|
          px_bind (mo_priceOf x3 h9) fun z10 h11 =>
          px_if (px_ok 0 52 ((px_c 12) + x3)) <|
          px_bind (mo_priceOf x4 h11) fun z12 h13 =>
          if ((h9 52 ((px_c 12) + x4).toNatClampNeg) * z10) ≤ ((h11 52 ((px_c 12) + x3).toNatClampNeg) * z12) then
            mo_bargain_102 (mo_bargain_37 n) x1 x2 x3 x4 h13
          else
            mo_bargain_99 (mo_bargain_37 n) x1 x2 x4 h13
      else
        mo_bargain_102 (mo_bargain_37 n) x1 x2 x3 x4 h9
noncomputable def mo_bargain (x1 : Int32) (x2 : Int32) (h : pH) : pR :=
  let h1 := px_w h 51 14 (px_c 0)
  px_bind (mo_areTwo x1 x2 h1) fun z2 h3 =>
  if z2 = 0 then
    mo_bargain_29 h3
  else
    px_if (px_ok 0 52 x1) <|
    px_if (px_ok 0 52 x2) <|
    if (h3 52 x1.toNatClampNeg) = (h3 52 x2.toNatClampNeg) then
      mo_bargain_37 px_F x1 x2 (px_c (-2)) (px_c 0) h3
    else
      mo_bargain_29 h3
def mo_bargain_code : pCode := [(0, .aload_n 0, 1), (1, .iconst 0, 1), (2, .putfield 106, 3), (5, .aload_n 0, 1), (6, .iload_n 1, 1), (7, .iload_n 2, 1), (8, .invokevirtual 299, 3), (11, .ifCond .eq (18), 3), (14, .aload_n 0, 1), (15, .getfield 9, 3), (18, .iload_n 1, 1), (19, .iaload, 1), (20, .aload_n 0, 1), (21, .getfield 9, 3), (24, .iload_n 2, 1), (25, .iaload, 1), (26, .if_icmp .eq (5), 3), (29, .iconst (-1), 1), (30, .ireturn, 1), (31, .bipush (-2), 2), (33, .istore_n 3, 1), (34, .iconst 0, 1), (35, .istore 4, 2), (37, .iload 4, 2), (39, .aload_n 0, 1), (40, .getfield 119, 3), (43, .if_icmp .ge (65), 3), (46, .aload_n 0, 1), (47, .iload_n 1, 1), (48, .iload_n 2, 1), (49, .iload 4, 2), (51, .invokevirtual 352, 3), (54, .ifCond .ge (6), 3), (57, .goto (45), 3), (60, .iload_n 3, 1), (61, .ifCond .lt (38), 3), (64, .aload_n 0, 1), (65, .getfield 9, 3), (68, .bipush (12), 2), (70, .iload 4, 2), (72, .iadd, 1), (73, .iaload, 1), (74, .aload_n 0, 1), (75, .iload_n 3, 1), (76, .invokevirtual 349, 3), (79, .imul, 1), (80, .aload_n 0, 1), (81, .getfield 9, 3), (84, .bipush (12), 2), (86, .iload_n 3, 1), (87, .iadd, 1), (88, .iaload, 1), (89, .aload_n 0, 1), (90, .iload 4, 2), (92, .invokevirtual 349, 3), (95, .imul, 1), (96, .if_icmp .le (6), 3), (99, .iload 4, 2), (101, .istore_n 3, 1), (102, .iinc 4 (1), 3), (105, .goto (-68), 3), (108, .iload_n 3, 1), (109, .ifCond .ge (6), 3), (112, .bipush (-2), 2), (114, .ireturn, 1), (115, .aload_n 0, 1), (116, .iconst 0, 1), (117, .putfield 109, 3), (120, .aload_n 0, 1), (121, .aload_n 0, 1), (122, .iload_n 3, 1), (123, .invokevirtual 349, 3), (126, .invokevirtual 312, 3), (129, .aload_n 0, 1), (130, .aload_n 0, 1), (131, .getfield 9, 3), (134, .bipush (12), 2), (136, .iload_n 3, 1), (137, .iadd, 1), (138, .iaload, 1), (139, .invokevirtual 312, 3), (142, .iload_n 3, 1), (143, .ireturn, 1)]
set_option maxRecDepth 200000 in
theorem mo_bargain_code_ok : px_code prog_13_method_100_code mo_bargain_code = true := by decide +kernel
noncomputable def mo_bargain_orc : pC := px_orc [(237, fun a h => match a with
    | [.inr (.inl 51), .inl v1] => mo_priceOf v1 h
    | _ => none), (178, fun a h => match a with
    | [.inr (.inl 51), .inl v1] => mo_tell v1 h
    | _ => none), (238, fun a h => match a with
    | [.inr (.inl 51), .inl v1, .inl v2, .inl v3] => mo_refusesSell v1 v2 v3 h
    | _ => none), (181, fun a h => match a with
    | [.inr (.inl 51), .inl v1, .inl v2] => mo_areTwo v1 v2 h
    | _ => none)]
theorem mo_bargain_orc_ok {d : Nat} : px_Or (d + 4) (mo_bargain_orc) := px_orc_ok (by
  refine px_o1 (fun a h q e => by
    dsimp only at e
    split at e
    · exact mo_priceOf_ok (d := d + 3) e
    · cases e) ?_
  refine px_o1 (fun a h q e => by
    dsimp only at e
    split at e
    · exact mo_tell_ok (d := d + 3) e
    · cases e) ?_
  refine px_o1 (fun a h q e => by
    dsimp only at e
    split at e
    · exact mo_refusesSell_ok (d := d + 0) e
    · cases e) ?_
  refine px_o1 (fun a h q e => by
    dsimp only at e
    split at e
    · exact mo_areTwo_ok (d := d + 1) e
    · cases e) ?_
  exact px_o0)
set_option maxRecDepth 200000 in
theorem mo_bargain_29_ok {d : Nat} : ∀ (h : pH) (q : Int32 × pH), mo_bargain_29 h = some q → px_G (d + 4 + 1) (pX_RX11, prog_13_method_100_code, 5, (some .int)) 29 [none, none, none, none, none] [] h q := by
  intro h q e
  exact px_blk_ok (d := d + 4) (M := (pX_RX11, prog_13_method_100_code, 5, (some .int))) (C := mo_bargain_orc) (code := mo_bargain_code) (ld := []) (kl := []) (mo_bargain_orc_ok) pX_ok_RX11 mo_bargain_code_ok (px_k0) 88 29 _ _ h q e
set_option maxRecDepth 200000 in
theorem mo_bargain_102_ok {d : Nat} {r37 : Int32 → Int32 → Int32 → Int32 → pH → pR} (hr37 : ∀ (x1 : Int32) (x2 : Int32) (x3 : Int32) (x4 : Int32) (h : pH) (q : Int32 × pH), r37 x1 x2 x3 x4 h = some q → px_G (d + 4 + 1) (pX_RX11, prog_13_method_100_code, 5, (some .int)) 37 [some (.inr (.inl 51)), some (.inl x1), some (.inl x2), some (.inl x3), some (.inl x4)] [] h q) : ∀ (x1 : Int32) (x2 : Int32) (x3 : Int32) (x4 : Int32) (h : pH) (q : Int32 × pH), mo_bargain_102 r37 x1 x2 x3 x4 h = some q → px_G (d + 4 + 1) (pX_RX11, prog_13_method_100_code, 5, (some .int)) 102 [some (.inr (.inl 51)), some (.inl x1), some (.inl x2), some (.inl x3), some (.inl x4)] [] h q := by
  intro x1 x2 x3 x4 h q e
  exact px_blk_ok (d := d + 4) (M := (pX_RX11, prog_13_method_100_code, 5, (some .int))) (C := mo_bargain_orc) (code := mo_bargain_code) (ld := [37]) (kl := [(37, fun ls st h => px_if (px_fit [61, 1, 1, 1, 1] ls && px_fits [] st) (r37 (px_gi ls 1) (px_gi ls 2) (px_gi ls 3) (px_gi ls 4) h))]) (mo_bargain_orc_ok) pX_ok_RX11 mo_bargain_code_ok (px_k1 (px_ko (ts := [61, 1, 1, 1, 1]) (ss := []) fun ls st h q e => hr37 _ _ _ _ _ _ e) px_k0) 88 102 _ _ h q e
set_option maxRecDepth 200000 in
theorem mo_bargain_99_ok {d : Nat} {r37 : Int32 → Int32 → Int32 → Int32 → pH → pR} (hr37 : ∀ (x1 : Int32) (x2 : Int32) (x3 : Int32) (x4 : Int32) (h : pH) (q : Int32 × pH), r37 x1 x2 x3 x4 h = some q → px_G (d + 4 + 1) (pX_RX11, prog_13_method_100_code, 5, (some .int)) 37 [some (.inr (.inl 51)), some (.inl x1), some (.inl x2), some (.inl x3), some (.inl x4)] [] h q) : ∀ (x1 : Int32) (x2 : Int32) (x4 : Int32) (h : pH) (q : Int32 × pH), mo_bargain_99 r37 x1 x2 x4 h = some q → px_G (d + 4 + 1) (pX_RX11, prog_13_method_100_code, 5, (some .int)) 99 [some (.inr (.inl 51)), some (.inl x1), some (.inl x2), none, some (.inl x4)] [] h q := by
  intro x1 x2 x4 h q e
  exact px_blk_ok (d := d + 4) (M := (pX_RX11, prog_13_method_100_code, 5, (some .int))) (C := mo_bargain_orc) (code := mo_bargain_code) (ld := [102]) (kl := [(102, fun ls st h => px_if (px_fit [61, 1, 1, 1, 1] ls && px_fits [] st) (mo_bargain_102 r37 (px_gi ls 1) (px_gi ls 2) (px_gi ls 3) (px_gi ls 4) h))]) (mo_bargain_orc_ok) pX_ok_RX11 mo_bargain_code_ok (px_k1 (px_ko (ts := [61, 1, 1, 1, 1]) (ss := []) fun ls st h q e => mo_bargain_102_ok hr37 _ _ _ _ _ _ e) px_k0) 88 99 _ _ h q e
set_option maxRecDepth 200000 in
theorem mo_bargain_37_ok {d : Nat} : ∀ (n : Nat) (x1 : Int32) (x2 : Int32) (x3 : Int32) (x4 : Int32) (h : pH) (q : Int32 × pH), mo_bargain_37 n x1 x2 x3 x4 h = some q → px_G (d + 4 + 1) (pX_RX11, prog_13_method_100_code, 5, (some .int)) 37 [some (.inr (.inl 51)), some (.inl x1), some (.inl x2), some (.inl x3), some (.inl x4)] [] h q := by
  intro n
  induction n with
  | zero =>
    intro x1 x2 x3 x4 h q e
    cases e
  | succ n ih =>
    intro x1 x2 x3 x4 h q e
    exact px_blk_ok (d := d + 4) (M := (pX_RX11, prog_13_method_100_code, 5, (some .int))) (C := mo_bargain_orc) (code := mo_bargain_code) (ld := [99, 102]) (kl := [(99, fun ls st h => px_if (px_fit [61, 1, 1, 0, 1] ls && px_fits [] st) (mo_bargain_99 (mo_bargain_37 n) (px_gi ls 1) (px_gi ls 2) (px_gi ls 4) h)), (102, fun ls st h => px_if (px_fit [61, 1, 1, 1, 1] ls && px_fits [] st) (mo_bargain_102 (mo_bargain_37 n) (px_gi ls 1) (px_gi ls 2) (px_gi ls 3) (px_gi ls 4) h))]) (mo_bargain_orc_ok) pX_ok_RX11 mo_bargain_code_ok (px_k1 (px_ko (ts := [61, 1, 1, 0, 1]) (ss := []) fun ls st h q e => mo_bargain_99_ok ih _ _ _ _ _ e) (px_k1 (px_ko (ts := [61, 1, 1, 1, 1]) (ss := []) fun ls st h q e => mo_bargain_102_ok ih _ _ _ _ _ _ e) px_k0)) 88 37 _ _ h q e
set_option maxRecDepth 200000 in
theorem mo_bargain_ok {d : Nat} {x1 : Int32} {x2 : Int32} {h : pH} {q : Int32 × pH} (e : mo_bargain x1 x2 h = some q) : px_Con (d + 5) 272 [.inr (.inl 51), .inl x1, .inl x2] h q :=
  px_con (X := pX_RX11) (b := prog_13_method_100_code) (nL := 5) (rt := (some .int)) rfl rfl (Nat.le_of_ble_eq_true rfl) rfl (px_blk_ok (d := d + 4) (M := (pX_RX11, prog_13_method_100_code, 5, (some .int))) (C := mo_bargain_orc) (code := mo_bargain_code) (ld := [37, 29]) (kl := [(37, fun ls st h => px_if (px_fit [61, 1, 1, 1, 1] ls && px_fits [] st) (mo_bargain_37 px_F (px_gi ls 1) (px_gi ls 2) (px_gi ls 3) (px_gi ls 4) h)), (29, fun ls st h => px_if (px_fit [0, 0, 0, 0, 0] ls && px_fits [] st) (mo_bargain_29 h))]) (mo_bargain_orc_ok) pX_ok_RX11 mo_bargain_code_ok (px_k1 (px_ko (ts := [61, 1, 1, 1, 1]) (ss := []) fun ls st h q e => mo_bargain_37_ok _ _ _ _ _ _ _ e) (px_k1 (px_ko (ts := [0, 0, 0, 0, 0]) (ss := []) fun ls st h q e => mo_bargain_29_ok _ _ e) px_k0)) 88 0 _ _ _ q e)
/-! WordsUnsaidModel.draw(I)I -/
noncomputable def mo_draw (x1 : Int32) (h : pH) : pR :=
  let h1 := px_w h 51 58 (((h 51 58) * (px_k 1103515245)) + (px_c 12345))
  if x1 = 0 then none else
  some ((px_ush (h1 51 58) (px_c 16)) - (px_ush (h1 51 58) (px_c 16)) / x1 * x1, h1)
def mo_draw_code : pCode := [(0, .aload_n 0, 1), (1, .aload_n 0, 1), (2, .getfield 449, 3), (5, .ldc_w 452, 3), (8, .imul, 1), (9, .sipush (12345), 3), (12, .iadd, 1), (13, .putfield 449, 3), (16, .aload_n 0, 1), (17, .getfield 449, 3), (20, .bipush (16), 2), (22, .iushr, 1), (23, .iload_n 1, 1), (24, .irem, 1), (25, .ireturn, 1)]
set_option maxRecDepth 200000 in
theorem mo_draw_code_ok : px_code prog_13_method_101_code mo_draw_code = true := by decide +kernel
noncomputable def mo_draw_orc : pC := px_orc []
theorem mo_draw_orc_ok {d : Nat} : px_Or (d + 0) (mo_draw_orc) := px_orc_ok (by
  exact px_o0)
set_option maxRecDepth 200000 in
theorem mo_draw_ok {d : Nat} {x1 : Int32} {h : pH} {q : Int32 × pH} (e : mo_draw x1 h = some q) : px_Con (d + 1) 273 [.inr (.inl 51), .inl x1] h q :=
  px_con (X := pX_RX11) (b := prog_13_method_101_code) (nL := 2) (rt := (some .int)) rfl rfl (Nat.le_of_ble_eq_true rfl) rfl (px_blk_ok (d := d + 0) (M := (pX_RX11, prog_13_method_101_code, 2, (some .int))) (C := mo_draw_orc) (code := mo_draw_code) (ld := []) (kl := []) (mo_draw_orc_ok) pX_ok_RX11 mo_draw_code_ok (px_k0) 20 0 _ _ _ q e)
/-! WordsUnsaidModel.years(II)I -/
noncomputable def mo_years_192 (r52 : Int32 → Int32 → Int32 → Int32 → pH → pR) (x2 : Int32) (x3 : Int32) (x4 : Int32) (x5 : Int32) (h : pH) : pR :=
  r52 x2 x3 x4 (x5 + px_c 1) h
noncomputable def mo_years_92 (r52 : Int32 → Int32 → Int32 → Int32 → pH → pR) (x2 : Int32) (x3 : Int32) (x4 : Int32) (x5 : Int32) (x6 : Int32) (x7 : Int32) (s0 : Int32) (h : pH) : pR :=
  let h1 := px_w h 51 30 (px_c 0)
  px_bind (mo_canLine 78 x7 ((px_c 1) <<< (x6 &&& 31)) h1) fun z2 h3 =>
  if z2 = 0 then
    mo_years_192 r52 x2 x3 x4 x5 h3
  else
    px_if (px_ok 0 65 (px_c 0)) <|
    let h4 := px_w h3 65 (px_c 0).toNatClampNeg x7
    let h5 := px_w h4 51 30 (px_c 1)
    px_bind (mo_wordsIn 78 h5) fun z6 h7 =>
    px_if (px_ok 0 78 x6) <|
    px_bind (mo_distance (h7 78 x6.toNatClampNeg) s0 h7) fun z8 h9 =>
    if z8 ≤ z6 then
      px_if (px_ok 0 78 x6) <|
      px_bind (mo_goes 78 ((px_c 1) <<< (x6 &&& 31)) (h9 78 x6.toNatClampNeg) s0 h9) fun z10 h11 =>
      if z10 = 0 then
        mo_years_192 r52 x2 (x3 + px_c 1) x4 x5 h11
      else
        mo_years_192 r52 x2 x3 (x4 + px_c 1) x5 h11
    else
      mo_years_192 r52 x2 x3 x4 x5 h9
noncomputable def mo_years_52 : Nat → Int32 → Int32 → Int32 → Int32 → pH → pR
  | 0, _, _, _, _, _ => none
  | n + 1, x2, x3, x4, x5, h =>
    if x2 ≤ x5 then
      let h1 := px_w h 51 13 (px_c 0)
      px_bind (mo_tell x4 h1) fun _ h3 =>
      px_bind (mo_saidOnes 78 h3) fun z4 h5 =>
      px_bind (mo_tell z4 h5) fun _ h7 =>
      some (x3, h7)
    else
      px_bind (mo_draw (h 51 4) h) fun z8 h9 =>
      px_bind (mo_draw (px_c 10) h9) fun z10 h11 =>
      px_if (px_ok 0 78 z8) <|
      if (h11 78 z8.toNatClampNeg) = (px_c 1) then
        mo_years_92 (mo_years_52 n) x2 x3 x4 x5 z8 z10 (px_c 0) h11
      else
        mo_years_92 (mo_years_52 n) x2 x3 x4 x5 z8 z10 (px_c 1) h11
noncomputable def mo_years (x1 : Int32) (x2 : Int32) (h : pH) : pR :=
  let h1 := px_w h 51 14 (px_c 0)
  px_bind (mo_in x2 (px_c 1) (px_c 40) h1) fun z2 h3 =>
  if z2 = 0 then
    some (px_c (-1), h3)
  else
    if (h3 51 4) = 0 then
      some (px_c (-2), h3)
    else
      let h4 := px_w h3 51 58 x1
      px_bind (mo_lay 52 78 (px_c 0) h4) fun _ h6 =>
      mo_years_52 px_F x2 (px_c 0) (px_c 0) (px_c 0) h6
def mo_years_code : pCode := [(0, .aload_n 0, 1), (1, .iconst 0, 1), (2, .putfield 106, 3), (5, .iload_n 2, 1), (6, .iconst 1, 1), (7, .bipush (40), 2), (9, .invokestatic 115, 3), (12, .ifCond .ne (5), 3), (15, .iconst (-1), 1), (16, .ireturn, 1), (17, .aload_n 0, 1), (18, .getfield 112, 3), (21, .ifCond .ne (6), 3), (24, .bipush (-2), 2), (26, .ireturn, 1), (27, .aload_n 0, 1), (28, .iload_n 1, 1), (29, .putfield 449, 3), (32, .aload_n 0, 1), (33, .getfield 9, 3), (36, .aload_n 0, 1), (37, .getfield 94, 3), (40, .iconst 0, 1), (41, .invokestatic 295, 3), (44, .iconst 0, 1), (45, .istore_n 3, 1), (46, .iconst 0, 1), (47, .istore 4, 2), (49, .iconst 0, 1), (50, .istore 5, 2), (52, .iload 5, 2), (54, .iload_n 2, 1), (55, .if_icmp .ge (143), 3), (58, .aload_n 0, 1), (59, .aload_n 0, 1), (60, .getfield 112, 3), (63, .invokevirtual 453, 3), (66, .istore 6, 2), (68, .aload_n 0, 1), (69, .bipush (10), 2), (71, .invokevirtual 453, 3), (74, .istore 7, 2), (76, .aload_n 0, 1), (77, .getfield 94, 3), (80, .iload 6, 2), (82, .iaload, 1), (83, .iconst 1, 1), (84, .if_icmp .ne (7), 3), (87, .iconst 0, 1), (88, .goto (4), 3), (91, .iconst 1, 1), (92, .istore 8, 2), (94, .aload_n 0, 1), (95, .iconst 0, 1), (96, .putfield 292, 3), (99, .aload_n 0, 1), (100, .aload_n 0, 1), (101, .getfield 94, 3), (104, .iload 7, 2), (106, .iconst 1, 1), (107, .iload 6, 2), (109, .ishl, 1), (110, .invokevirtual 305, 3), (113, .ifCond .ne (6), 3), (116, .goto (76), 3), (119, .aload_n 0, 1), (120, .getfield 54, 3), (123, .iconst 0, 1), (124, .iload 7, 2), (126, .iastore, 1), (127, .aload_n 0, 1), (128, .iconst 1, 1), (129, .putfield 292, 3), (132, .aload_n 0, 1), (133, .aload_n 0, 1), (134, .getfield 94, 3), (137, .invokevirtual 309, 3), (140, .aload_n 0, 1), (141, .aload_n 0, 1), (142, .getfield 94, 3), (145, .iload 6, 2), (147, .iaload, 1), (148, .iload 8, 2), (150, .invokevirtual 268, 3), (153, .if_icmp .ge (6), 3), (156, .goto (36), 3), (159, .aload_n 0, 1), (160, .aload_n 0, 1), (161, .getfield 94, 3), (164, .iconst 1, 1), (165, .iload 6, 2), (167, .ishl, 1), (168, .aload_n 0, 1), (169, .getfield 94, 3), (172, .iload 6, 2), (174, .iaload, 1), (175, .iload 8, 2), (177, .invokevirtual 326, 3), (180, .ifCond .eq (9), 3), (183, .iinc 4 (1), 3), (186, .goto (6), 3), (189, .iinc 3 (1), 3), (192, .iinc 5 (1), 3), (195, .goto (-143), 3), (198, .aload_n 0, 1), (199, .iconst 0, 1), (200, .putfield 109, 3), (203, .aload_n 0, 1), (204, .iload 4, 2), (206, .invokevirtual 312, 3), (209, .aload_n 0, 1), (210, .aload_n 0, 1), (211, .aload_n 0, 1), (212, .getfield 94, 3), (215, .invokevirtual 235, 3), (218, .invokevirtual 312, 3), (221, .iload_n 3, 1), (222, .ireturn, 1)]
set_option maxRecDepth 200000 in
theorem mo_years_code_ok : px_code prog_13_method_102_code mo_years_code = true := by decide +kernel
noncomputable def mo_years_orc : pC := px_orc [(226, fun a h => match a with
    | [.inr (.inl 51), .inr (.inl v1), .inl v2, .inl v3] => mo_canLine v1 v2 v3 h
    | _ => none), (222, fun a h => match a with
    | [.inr (.inl 51), .inr (.inl v1)] => mo_wordsIn v1 h
    | _ => none), (218, fun a h => match a with
    | [.inr (.inl 51), .inl v1, .inl v2] => mo_distance v1 v2 h
    | _ => none), (219, fun a h => match a with
    | [.inr (.inl 51), .inr (.inl v1), .inl v2, .inl v3, .inl v4] => mo_goes v1 v2 v3 v4 h
    | _ => none), (178, fun a h => match a with
    | [.inr (.inl 51), .inl v1] => mo_tell v1 h
    | _ => none), (210, fun a h => match a with
    | [.inr (.inl 51), .inr (.inl v1)] => mo_saidOnes v1 h
    | _ => none), (273, fun a h => match a with
    | [.inr (.inl 51), .inl v1] => mo_draw v1 h
    | _ => none), (175, fun a h => match a with
    | [.inl v0, .inl v1, .inl v2] => mo_in v0 v1 v2 h
    | _ => none), (223, fun a h => match a with
    | [.inr (.inl v0), .inr (.inl v1), .inl v2] => mo_lay v0 v1 v2 h
    | _ => none)]
theorem mo_years_orc_ok {d : Nat} : px_Or (d + 106) (mo_years_orc) := px_orc_ok (by
  refine px_o1 (fun a h q e => by
    dsimp only at e
    split at e
    · exact mo_canLine_ok (d := d + 103) e
    · cases e) ?_
  refine px_o1 (fun a h q e => by
    dsimp only at e
    split at e
    · exact mo_wordsIn_ok (d := d + 105) e
    · cases e) ?_
  refine px_o1 (fun a h q e => by
    dsimp only at e
    split at e
    · exact mo_distance_ok (d := d + 104) e
    · cases e) ?_
  refine px_o1 (fun a h q e => by
    dsimp only at e
    split at e
    · exact mo_goes_ok (d := d + 0) e
    · cases e) ?_
  refine px_o1 (fun a h q e => by
    dsimp only at e
    split at e
    · exact mo_tell_ok (d := d + 105) e
    · cases e) ?_
  refine px_o1 (fun a h q e => by
    dsimp only at e
    split at e
    · exact mo_saidOnes_ok (d := d + 105) e
    · cases e) ?_
  refine px_o1 (fun a h q e => by
    dsimp only at e
    split at e
    · exact mo_draw_ok (d := d + 105) e
    · cases e) ?_
  refine px_o1 (fun a h q e => by
    dsimp only at e
    split at e
    · exact mo_in_ok (d := d + 105) e
    · cases e) ?_
  refine px_o1 (fun a h q e => by
    dsimp only at e
    split at e
    · exact mo_lay_ok (d := d + 105) e
    · cases e) ?_
  exact px_o0)
set_option maxRecDepth 200000 in
theorem mo_years_192_ok {d : Nat} {r52 : Int32 → Int32 → Int32 → Int32 → pH → pR} (hr52 : ∀ (x2 : Int32) (x3 : Int32) (x4 : Int32) (x5 : Int32) (h : pH) (q : Int32 × pH), r52 x2 x3 x4 x5 h = some q → px_G (d + 106 + 1) (pX_RX11, prog_13_method_102_code, 9, (some .int)) 52 [some (.inr (.inl 51)), none, some (.inl x2), some (.inl x3), some (.inl x4), some (.inl x5), none, none, none] [] h q) : ∀ (x2 : Int32) (x3 : Int32) (x4 : Int32) (x5 : Int32) (h : pH) (q : Int32 × pH), mo_years_192 r52 x2 x3 x4 x5 h = some q → px_G (d + 106 + 1) (pX_RX11, prog_13_method_102_code, 9, (some .int)) 192 [some (.inr (.inl 51)), none, some (.inl x2), some (.inl x3), some (.inl x4), some (.inl x5), none, none, none] [] h q := by
  intro x2 x3 x4 x5 h q e
  exact px_blk_ok (d := d + 106) (M := (pX_RX11, prog_13_method_102_code, 9, (some .int))) (C := mo_years_orc) (code := mo_years_code) (ld := [52]) (kl := [(52, fun ls st h => px_if (px_fit [61, 0, 1, 1, 1, 1, 0, 0, 0] ls && px_fits [] st) (r52 (px_gi ls 2) (px_gi ls 3) (px_gi ls 4) (px_gi ls 5) h))]) (mo_years_orc_ok) pX_ok_RX11 mo_years_code_ok (px_k1 (px_ko (ts := [61, 0, 1, 1, 1, 1, 0, 0, 0]) (ss := []) fun ls st h q e => hr52 _ _ _ _ _ _ e) px_k0) 123 192 _ _ h q e
set_option maxRecDepth 200000 in
theorem mo_years_92_ok {d : Nat} {r52 : Int32 → Int32 → Int32 → Int32 → pH → pR} (hr52 : ∀ (x2 : Int32) (x3 : Int32) (x4 : Int32) (x5 : Int32) (h : pH) (q : Int32 × pH), r52 x2 x3 x4 x5 h = some q → px_G (d + 106 + 1) (pX_RX11, prog_13_method_102_code, 9, (some .int)) 52 [some (.inr (.inl 51)), none, some (.inl x2), some (.inl x3), some (.inl x4), some (.inl x5), none, none, none] [] h q) : ∀ (x2 : Int32) (x3 : Int32) (x4 : Int32) (x5 : Int32) (x6 : Int32) (x7 : Int32) (s0 : Int32) (h : pH) (q : Int32 × pH), mo_years_92 r52 x2 x3 x4 x5 x6 x7 s0 h = some q → px_G (d + 106 + 1) (pX_RX11, prog_13_method_102_code, 9, (some .int)) 92 [some (.inr (.inl 51)), none, some (.inl x2), some (.inl x3), some (.inl x4), some (.inl x5), some (.inl x6), some (.inl x7), none] [.inl s0] h q := by
  intro x2 x3 x4 x5 x6 x7 s0 h q e
  exact px_blk_ok (d := d + 106) (M := (pX_RX11, prog_13_method_102_code, 9, (some .int))) (C := mo_years_orc) (code := mo_years_code) (ld := [192]) (kl := [(192, fun ls st h => px_if (px_fit [61, 0, 1, 1, 1, 1, 0, 0, 0] ls && px_fits [] st) (mo_years_192 r52 (px_gi ls 2) (px_gi ls 3) (px_gi ls 4) (px_gi ls 5) h))]) (mo_years_orc_ok) pX_ok_RX11 mo_years_code_ok (px_k1 (px_ko (ts := [61, 0, 1, 1, 1, 1, 0, 0, 0]) (ss := []) fun ls st h q e => mo_years_192_ok hr52 _ _ _ _ _ _ e) px_k0) 123 92 _ _ h q e
set_option maxRecDepth 200000 in
theorem mo_years_52_ok {d : Nat} : ∀ (n : Nat) (x2 : Int32) (x3 : Int32) (x4 : Int32) (x5 : Int32) (h : pH) (q : Int32 × pH), mo_years_52 n x2 x3 x4 x5 h = some q → px_G (d + 106 + 1) (pX_RX11, prog_13_method_102_code, 9, (some .int)) 52 [some (.inr (.inl 51)), none, some (.inl x2), some (.inl x3), some (.inl x4), some (.inl x5), none, none, none] [] h q := by
  intro n
  induction n with
  | zero =>
    intro x2 x3 x4 x5 h q e
    cases e
  | succ n ih =>
    intro x2 x3 x4 x5 h q e
    exact px_blk_ok (d := d + 106) (M := (pX_RX11, prog_13_method_102_code, 9, (some .int))) (C := mo_years_orc) (code := mo_years_code) (ld := [92]) (kl := [(92, fun ls st h => px_if (px_fit [61, 0, 1, 1, 1, 1, 1, 1, 0] ls && px_fits [1] st) (mo_years_92 (mo_years_52 n) (px_gi ls 2) (px_gi ls 3) (px_gi ls 4) (px_gi ls 5) (px_gi ls 6) (px_gi ls 7) (px_si st 0) h))]) (mo_years_orc_ok) pX_ok_RX11 mo_years_code_ok (px_k1 (px_ko (ts := [61, 0, 1, 1, 1, 1, 1, 1, 0]) (ss := [1]) fun ls st h q e => mo_years_92_ok ih _ _ _ _ _ _ _ _ _ e) px_k0) 123 52 _ _ h q e
set_option maxRecDepth 200000 in
theorem mo_years_ok {d : Nat} {x1 : Int32} {x2 : Int32} {h : pH} {q : Int32 × pH} (e : mo_years x1 x2 h = some q) : px_Con (d + 107) 274 [.inr (.inl 51), .inl x1, .inl x2] h q :=
  px_con (X := pX_RX11) (b := prog_13_method_102_code) (nL := 9) (rt := (some .int)) rfl rfl (Nat.le_of_ble_eq_true rfl) rfl (px_blk_ok (d := d + 106) (M := (pX_RX11, prog_13_method_102_code, 9, (some .int))) (C := mo_years_orc) (code := mo_years_code) (ld := [52]) (kl := [(52, fun ls st h => px_if (px_fit [61, 0, 1, 1, 1, 1, 0, 0, 0] ls && px_fits [] st) (mo_years_52 px_F (px_gi ls 2) (px_gi ls 3) (px_gi ls 4) (px_gi ls 5) h))]) (mo_years_orc_ok) pX_ok_RX11 mo_years_code_ok (px_k1 (px_ko (ts := [61, 0, 1, 1, 1, 1, 0, 0, 0]) (ss := []) fun ls st h q e => mo_years_52_ok _ _ _ _ _ _ _ e) px_k0) 123 0 _ _ _ q e)
/-! WordsUnsaidModel.keep(I)Z -/
noncomputable def mo_keep (x1 : Int32) (h : pH) : pR :=
  let h1 := px_w h 51 14 (px_c 0)
  px_bind (mo_in x1 (px_c 0) (px_c 1) h1) fun z2 h3 =>
  if z2 = 0 then
    px_bz (px_c 0) h3
  else
    px_if (px_ok 3 80 x1) <|
    let h4 := px_w h3 80 x1.toNatClampNeg (px_nz (px_c 1))
    px_if (px_ok 0 81 x1) <|
    let h5 := px_w h4 81 x1.toNatClampNeg (h4 51 60)
    px_bind (mo_lay 52 79 ((px_c 52) * x1) h5) fun _ h7 =>
    px_bz (px_c 1) h7
def mo_keep_code : pCode := [(0, .aload_n 0, 1), (1, .iconst 0, 1), (2, .putfield 106, 3), (5, .iload_n 1, 1), (6, .iconst 0, 1), (7, .iconst 1, 1), (8, .invokestatic 115, 3), (11, .ifCond .ne (5), 3), (14, .iconst 0, 1), (15, .ireturn, 1), (16, .aload_n 0, 1), (17, .getfield 100, 3), (20, .iload_n 1, 1), (21, .iconst 1, 1), (22, .bastore, 1), (23, .aload_n 0, 1), (24, .getfield 103, 3), (27, .iload_n 1, 1), (28, .aload_n 0, 1), (29, .getfield 180, 3), (32, .iastore, 1), (33, .aload_n 0, 1), (34, .getfield 9, 3), (37, .aload_n 0, 1), (38, .getfield 97, 3), (41, .bipush (52), 2), (43, .iload_n 1, 1), (44, .imul, 1), (45, .invokestatic 295, 3), (48, .iconst 1, 1), (49, .ireturn, 1)]
set_option maxRecDepth 200000 in
theorem mo_keep_code_ok : px_code prog_13_method_103_code mo_keep_code = true := by decide +kernel
noncomputable def mo_keep_orc : pC := px_orc [(175, fun a h => match a with
    | [.inl v0, .inl v1, .inl v2] => mo_in v0 v1 v2 h
    | _ => none), (223, fun a h => match a with
    | [.inr (.inl v0), .inr (.inl v1), .inl v2] => mo_lay v0 v1 v2 h
    | _ => none)]
theorem mo_keep_orc_ok {d : Nat} : px_Or (d + 1) (mo_keep_orc) := px_orc_ok (by
  refine px_o1 (fun a h q e => by
    dsimp only at e
    split at e
    · exact mo_in_ok (d := d + 0) e
    · cases e) ?_
  refine px_o1 (fun a h q e => by
    dsimp only at e
    split at e
    · exact mo_lay_ok (d := d + 0) e
    · cases e) ?_
  exact px_o0)
set_option maxRecDepth 200000 in
theorem mo_keep_ok {d : Nat} {x1 : Int32} {h : pH} {q : Int32 × pH} (e : mo_keep x1 h = some q) : px_Con (d + 2) 275 [.inr (.inl 51), .inl x1] h q :=
  px_con (X := pX_RX11) (b := prog_13_method_103_code) (nL := 2) (rt := (some .boolean)) rfl rfl (Nat.le_of_ble_eq_true rfl) rfl (px_blk_ok (d := d + 1) (M := (pX_RX11, prog_13_method_103_code, 2, (some .boolean))) (C := mo_keep_orc) (code := mo_keep_code) (ld := []) (kl := []) (mo_keep_orc_ok) pX_ok_RX11 mo_keep_code_ok (px_k0) 36 0 _ _ _ q e)
/-! WordsUnsaidModel.again(I)Z -/
noncomputable def mo_again_36 (h : pH) : pR :=
  px_bz (px_c 0) h
noncomputable def mo_again_40 : Nat → Int32 → Int32 → pH → pR
  | 0, _, _, _ => none
  | n + 1, x1, x2, h =>
    if (px_c 52) ≤ x2 then
      let h1 := px_w h 51 35 (px_c 0)
      px_bz (px_c 1) h1
    else
      px_if (px_ok 0 79 (((px_c 52) * x1) + x2)) <|
      px_if (px_ok 0 52 x2) <|
      let h2 := px_w h 52 x2.toNatClampNeg (h 79 (((px_c 52) * x1) + x2).toNatClampNeg)
      mo_again_40 n x1 (x2 + px_c 1) h2
noncomputable def mo_again (x1 : Int32) (h : pH) : pR :=
  let h1 := px_w h 51 14 (px_c 0)
  px_bind (mo_in x1 (px_c 0) (px_c 1) h1) fun z2 h3 =>
  if z2 = 0 then
    mo_again_36 h3
  else
    px_if (px_ok 1 80 x1 || px_ok 3 80 x1) <|
    if (h3 80 x1.toNatClampNeg) = 0 then
      mo_again_36 h3
    else
      px_if (px_ok 0 81 x1) <|
      if (h3 81 x1.toNatClampNeg) = (h3 51 60) then
        mo_again_40 px_F x1 (px_c 0) h3
      else
        mo_again_36 h3
def mo_again_code : pCode := [(0, .aload_n 0, 1), (1, .iconst 0, 1), (2, .putfield 106, 3), (5, .iload_n 1, 1), (6, .iconst 0, 1), (7, .iconst 1, 1), (8, .invokestatic 115, 3), (11, .ifCond .eq (25), 3), (14, .aload_n 0, 1), (15, .getfield 100, 3), (18, .iload_n 1, 1), (19, .baload, 1), (20, .ifCond .eq (16), 3), (23, .aload_n 0, 1), (24, .getfield 103, 3), (27, .iload_n 1, 1), (28, .iaload, 1), (29, .aload_n 0, 1), (30, .getfield 180, 3), (33, .if_icmp .eq (5), 3), (36, .iconst 0, 1), (37, .ireturn, 1), (38, .iconst 0, 1), (39, .istore_n 2, 1), (40, .iload_n 2, 1), (41, .bipush (52), 2), (43, .if_icmp .ge (26), 3), (46, .aload_n 0, 1), (47, .getfield 9, 3), (50, .iload_n 2, 1), (51, .aload_n 0, 1), (52, .getfield 97, 3), (55, .bipush (52), 2), (57, .iload_n 1, 1), (58, .imul, 1), (59, .iload_n 2, 1), (60, .iadd, 1), (61, .iaload, 1), (62, .iastore, 1), (63, .iinc 2 (1), 3), (66, .goto (-26), 3), (69, .aload_n 0, 1), (70, .iconst 0, 1), (71, .putfield 177, 3), (74, .iconst 1, 1), (75, .ireturn, 1)]
set_option maxRecDepth 200000 in
theorem mo_again_code_ok : px_code prog_13_method_104_code mo_again_code = true := by decide +kernel
noncomputable def mo_again_orc : pC := px_orc [(175, fun a h => match a with
    | [.inl v0, .inl v1, .inl v2] => mo_in v0 v1 v2 h
    | _ => none)]
theorem mo_again_orc_ok {d : Nat} : px_Or (d + 1) (mo_again_orc) := px_orc_ok (by
  refine px_o1 (fun a h q e => by
    dsimp only at e
    split at e
    · exact mo_in_ok (d := d + 0) e
    · cases e) ?_
  exact px_o0)
set_option maxRecDepth 200000 in
theorem mo_again_36_ok {d : Nat} : ∀ (h : pH) (q : Int32 × pH), mo_again_36 h = some q → px_G (d + 1 + 1) (pX_RX11, prog_13_method_104_code, 3, (some .boolean)) 36 [none, none, none] [] h q := by
  intro h q e
  exact px_blk_ok (d := d + 1) (M := (pX_RX11, prog_13_method_104_code, 3, (some .boolean))) (C := mo_again_orc) (code := mo_again_code) (ld := []) (kl := []) (mo_again_orc_ok) pX_ok_RX11 mo_again_code_ok (px_k0) 51 36 _ _ h q e
set_option maxRecDepth 200000 in
theorem mo_again_40_ok {d : Nat} : ∀ (n : Nat) (x1 : Int32) (x2 : Int32) (h : pH) (q : Int32 × pH), mo_again_40 n x1 x2 h = some q → px_G (d + 1 + 1) (pX_RX11, prog_13_method_104_code, 3, (some .boolean)) 40 [some (.inr (.inl 51)), some (.inl x1), some (.inl x2)] [] h q := by
  intro n
  induction n with
  | zero =>
    intro x1 x2 h q e
    cases e
  | succ n ih =>
    intro x1 x2 h q e
    exact px_blk_ok (d := d + 1) (M := (pX_RX11, prog_13_method_104_code, 3, (some .boolean))) (C := mo_again_orc) (code := mo_again_code) (ld := [40]) (kl := [(40, fun ls st h => px_if (px_fit [61, 1, 1] ls && px_fits [] st) (mo_again_40 n (px_gi ls 1) (px_gi ls 2) h))]) (mo_again_orc_ok) pX_ok_RX11 mo_again_code_ok (px_k1 (px_ko (ts := [61, 1, 1]) (ss := []) fun ls st h q e => ih _ _ _ _ e) px_k0) 51 40 _ _ h q e
set_option maxRecDepth 200000 in
theorem mo_again_ok {d : Nat} {x1 : Int32} {h : pH} {q : Int32 × pH} (e : mo_again x1 h = some q) : px_Con (d + 2) 276 [.inr (.inl 51), .inl x1] h q :=
  px_con (X := pX_RX11) (b := prog_13_method_104_code) (nL := 3) (rt := (some .boolean)) rfl rfl (Nat.le_of_ble_eq_true rfl) rfl (px_blk_ok (d := d + 1) (M := (pX_RX11, prog_13_method_104_code, 3, (some .boolean))) (C := mo_again_orc) (code := mo_again_code) (ld := [40, 36]) (kl := [(40, fun ls st h => px_if (px_fit [61, 1, 1] ls && px_fits [] st) (mo_again_40 px_F (px_gi ls 1) (px_gi ls 2) h)), (36, fun ls st h => px_if (px_fit [0, 0, 0] ls && px_fits [] st) (mo_again_36 h))]) (mo_again_orc_ok) pX_ok_RX11 mo_again_code_ok (px_k1 (px_ko (ts := [61, 1, 1]) (ss := []) fun ls st h q e => mo_again_40_ok _ _ _ _ _ e) (px_k1 (px_ko (ts := [0, 0, 0]) (ss := []) fun ls st h q e => mo_again_36_ok _ _ e) px_k0)) 51 0 _ _ _ q e)
/-! WordsUnsaidModel.count(I)I -/
noncomputable def mo_count (x1 : Int32) (h : pH) : pR :=
  let h1 := px_w h 51 14 (px_c 0)
  if x1 = px_c 0 then
    some (h1 51 4, h1)
  else
  if x1 = px_c 1 then
    some (h1 51 6, h1)
  else
  if x1 = px_c 2 then
    some (h1 51 2, h1)
  else
  if x1 = px_c 3 then
    some (h1 51 1, h1)
  else
  if x1 = px_c 4 then
    px_bind (mo_peopleAt (px_c 0) h1) fun z2 h3 =>
    some (z2, h3)
  else
  if x1 = px_c 5 then
    px_bind (mo_peopleAt (px_c 1) h1) fun z4 h5 =>
    some (z4, h5)
  else
  if x1 = px_c 6 then
    px_bind (mo_peopleAt (px_c 0) h1) fun z6 h7 =>
    px_bind (mo_peopleAt (px_c 1) h7) fun z8 h9 =>
    some (((((px_c 1) <<< ((h1 51 4) &&& 31)) - (px_c 1)) &&& (z6 ^^^ (px_c (-1)))) &&& (z8 ^^^ (px_c (-1))), h9)
  else
  if x1 = px_c 7 then
    px_bind (mo_saidOnes 52 h1) fun z10 h11 =>
    some (z10, h11)
  else
  if x1 = px_c 8 then
    px_bind (mo_leftIn 52 (((px_c 1) <<< ((h1 51 6) &&& 31)) - (px_c 1)) h1) fun z12 h13 =>
    some (z12, h13)
  else
  if x1 = px_c 9 then
    some (h1 51 35, h1)
  else
  if x1 = px_c 10 then
    some (h1 51 13, h1)
  else
  if x1 = px_c 11 then
    some (h1 51 11, h1)
  else
    some (px_c (-1), h1)
def mo_count_code : pCode := [(0, .aload_n 0, 1), (1, .iconst 0, 1), (2, .putfield 106, 3), (5, .iload_n 1, 1), (6, .tableswitch (159) (0) (11) #[62, 67, 72, 77, 82, 88, 94, 119, 128, 144, 149, 154], 62), (68, .aload_n 0, 1), (69, .getfield 112, 3), (72, .ireturn, 1), (73, .aload_n 0, 1), (74, .getfield 119, 3), (77, .ireturn, 1), (78, .aload_n 0, 1), (79, .getfield 126, 3), (82, .ireturn, 1), (83, .aload_n 0, 1), (84, .getfield 13, 3), (87, .ireturn, 1), (88, .aload_n 0, 1), (89, .iconst 0, 1), (90, .invokevirtual 334, 3), (93, .ireturn, 1), (94, .aload_n 0, 1), (95, .iconst 1, 1), (96, .invokevirtual 334, 3), (99, .ireturn, 1), (100, .iconst 1, 1), (101, .aload_n 0, 1), (102, .getfield 112, 3), (105, .ishl, 1), (106, .iconst 1, 1), (107, .isub, 1), (108, .aload_n 0, 1), (109, .iconst 0, 1), (110, .invokevirtual 334, 3), (113, .iconst (-1), 1), (114, .ixor, 1), (115, .iand, 1), (116, .aload_n 0, 1), (117, .iconst 1, 1), (118, .invokevirtual 334, 3), (121, .iconst (-1), 1), (122, .ixor, 1), (123, .iand, 1), (124, .ireturn, 1), (125, .aload_n 0, 1), (126, .aload_n 0, 1), (127, .getfield 9, 3), (130, .invokevirtual 235, 3), (133, .ireturn, 1), (134, .aload_n 0, 1), (135, .getfield 9, 3), (138, .iconst 1, 1), (139, .aload_n 0, 1), (140, .getfield 119, 3), (143, .ishl, 1), (144, .iconst 1, 1), (145, .isub, 1), (146, .invokestatic 248, 3), (149, .ireturn, 1), (150, .aload_n 0, 1), (151, .getfield 177, 3), (154, .ireturn, 1), (155, .aload_n 0, 1), (156, .getfield 109, 3), (159, .ireturn, 1), (160, .aload_n 0, 1), (161, .getfield 129, 3), (164, .ireturn, 1), (165, .iconst (-1), 1), (166, .ireturn, 1)]
set_option maxRecDepth 200000 in
theorem mo_count_code_ok : px_code prog_13_method_105_code mo_count_code = true := by decide +kernel
noncomputable def mo_count_orc : pC := px_orc [(207, fun a h => match a with
    | [.inr (.inl 51), .inl v1] => mo_peopleAt v1 h
    | _ => none), (210, fun a h => match a with
    | [.inr (.inl 51), .inr (.inl v1)] => mo_saidOnes v1 h
    | _ => none), (211, fun a h => match a with
    | [.inr (.inl v0), .inl v1] => mo_leftIn v0 v1 h
    | _ => none)]
theorem mo_count_orc_ok {d : Nat} : px_Or (d + 2) (mo_count_orc) := px_orc_ok (by
  refine px_o1 (fun a h q e => by
    dsimp only at e
    split at e
    · exact mo_peopleAt_ok (d := d + 1) e
    · cases e) ?_
  refine px_o1 (fun a h q e => by
    dsimp only at e
    split at e
    · exact mo_saidOnes_ok (d := d + 1) e
    · cases e) ?_
  refine px_o1 (fun a h q e => by
    dsimp only at e
    split at e
    · exact mo_leftIn_ok (d := d + 0) e
    · cases e) ?_
  exact px_o0)
set_option maxRecDepth 200000 in
theorem mo_count_ok {d : Nat} {x1 : Int32} {h : pH} {q : Int32 × pH} (e : mo_count x1 h = some q) : px_Con (d + 3) 277 [.inr (.inl 51), .inl x1] h q :=
  px_con (X := pX_RX11) (b := prog_13_method_105_code) (nL := 2) (rt := (some .int)) rfl rfl (Nat.le_of_ble_eq_true rfl) rfl (px_blk_ok (d := d + 2) (M := (pX_RX11, prog_13_method_105_code, 2, (some .int))) (C := mo_count_orc) (code := mo_count_code) (ld := []) (kl := []) (mo_count_orc_ok) pX_ok_RX11 mo_count_code_ok (px_k0) 75 0 _ _ _ q e)
/-! WordsUnsaidModel.row(I)I -/
noncomputable def mo_row_32 (s0 : Int32) (h : pH) : pR :=
  some (s0, h)
noncomputable def mo_row (x1 : Int32) (h : pH) : pR :=
  let h1 := px_w h 51 14 (px_c 0)
  px_bind (mo_in x1 (px_c 0) ((h1 51 13) - (px_c 1)) h1) fun z2 h3 =>
  if z2 = 0 then
    px_bind (mo_lost h3) fun z4 h5 =>
    mo_row_32 z4 h5
  else
    px_if (px_ok 0 59 x1) <|
    mo_row_32 (h3 59 x1.toNatClampNeg) h3
def mo_row_code : pCode := [(0, .aload_n 0, 1), (1, .iconst 0, 1), (2, .putfield 106, 3), (5, .iload_n 1, 1), (6, .iconst 0, 1), (7, .aload_n 0, 1), (8, .getfield 109, 3), (11, .iconst 1, 1), (12, .isub, 1), (13, .invokestatic 115, 3), (16, .ifCond .eq (12), 3), (19, .aload_n 0, 1), (20, .getfield 36, 3), (23, .iload_n 1, 1), (24, .iaload, 1), (25, .goto (7), 3), (28, .aload_n 0, 1), (29, .invokevirtual 239, 3), (32, .ireturn, 1)]
set_option maxRecDepth 200000 in
theorem mo_row_code_ok : px_code prog_13_method_106_code mo_row_code = true := by decide +kernel
noncomputable def mo_row_orc : pC := px_orc [(175, fun a h => match a with
    | [.inl v0, .inl v1, .inl v2] => mo_in v0 v1 v2 h
    | _ => none), (177, fun a h => match a with
    | [.inr (.inl 51)] => mo_lost h
    | _ => none)]
theorem mo_row_orc_ok {d : Nat} : px_Or (d + 1) (mo_row_orc) := px_orc_ok (by
  refine px_o1 (fun a h q e => by
    dsimp only at e
    split at e
    · exact mo_in_ok (d := d + 0) e
    · cases e) ?_
  refine px_o1 (fun a h q e => by
    dsimp only at e
    split at e
    · exact mo_lost_ok (d := d + 0) e
    · cases e) ?_
  exact px_o0)
set_option maxRecDepth 200000 in
theorem mo_row_32_ok {d : Nat} : ∀ (s0 : Int32) (h : pH) (q : Int32 × pH), mo_row_32 s0 h = some q → px_G (d + 1 + 1) (pX_RX11, prog_13_method_106_code, 2, (some .int)) 32 [none, none] [.inl s0] h q := by
  intro s0 h q e
  exact px_blk_ok (d := d + 1) (M := (pX_RX11, prog_13_method_106_code, 2, (some .int))) (C := mo_row_orc) (code := mo_row_code) (ld := []) (kl := []) (mo_row_orc_ok) pX_ok_RX11 mo_row_code_ok (px_k0) 24 32 _ _ h q e
set_option maxRecDepth 200000 in
theorem mo_row_ok {d : Nat} {x1 : Int32} {h : pH} {q : Int32 × pH} (e : mo_row x1 h = some q) : px_Con (d + 2) 278 [.inr (.inl 51), .inl x1] h q :=
  px_con (X := pX_RX11) (b := prog_13_method_106_code) (nL := 2) (rt := (some .int)) rfl rfl (Nat.le_of_ble_eq_true rfl) rfl (px_blk_ok (d := d + 1) (M := (pX_RX11, prog_13_method_106_code, 2, (some .int))) (C := mo_row_orc) (code := mo_row_code) (ld := [32]) (kl := [(32, fun ls st h => px_if (px_fit [0, 0] ls && px_fits [1] st) (mo_row_32 (px_si st 0) h))]) (mo_row_orc_ok) pX_ok_RX11 mo_row_code_ok (px_k1 (px_ko (ts := [0, 0]) (ss := [1]) fun ls st h q e => mo_row_32_ok _ _ _ e) px_k0) 24 0 _ _ _ q e)
