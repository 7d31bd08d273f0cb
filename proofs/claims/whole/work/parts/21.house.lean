/-! Tale, House, River -/
/-! WordsUnsaid$Tale.clear()V -/
noncomputable def tl_clear (h : pH) : pR :=
  let h1 := px_w h 45 1 (px_c 0)
  some (0, h1)
def tl_clear_code : pCode := [(0, .aload_n 0, 1), (1, .iconst 0, 1), (2, .putfield 15, 3), (5, .return_, 1)]
set_option maxRecDepth 200000 in
theorem tl_clear_code_ok : px_code prog_9_method_2_code tl_clear_code = true := by decide +kernel
noncomputable def tl_clear_orc : pC := px_orc []
theorem tl_clear_orc_ok {d : Nat} : px_Or (d + 0) (tl_clear_orc) := px_orc_ok (by
  exact px_o0)
set_option maxRecDepth 200000 in
theorem tl_clear_ok {d : Nat} {h : pH} {q : Int32 × pH} (e : tl_clear h = some q) : px_Con (d + 1) 81 [.inr (.inl 45)] h q :=
  px_con (X := pX_RX7) (b := prog_9_method_2_code) (nL := 1) (rt := none) rfl rfl (Nat.le_of_ble_eq_true rfl) rfl (px_blk_ok (d := d + 0) (M := (pX_RX7, prog_9_method_2_code, 1, none)) (C := tl_clear_orc) (code := tl_clear_code) (ld := []) (kl := []) (tl_clear_orc_ok) pX_ok_RX7 tl_clear_code_ok (px_k0) 9 0 _ _ _ q e)
/-! WordsUnsaid$Tale.add(I)V -/
noncomputable def tl_add_34 (h : pH) : pR :=
  some (0, h)
noncomputable def tl_add (x1 : Int32) (h : pH) : pR :=
  if (nI (px_len 46)) ≤ (h 45 1) then
    tl_add_34 h
  else
    px_bind (wu_put 46 (h 45 1) x1 h) fun _ h2 =>
    let h3 := px_w h2 45 1 ((h2 45 1) + (px_c 1))
    tl_add_34 h3
def tl_add_code : pCode := [(0, .aload_n 0, 1), (1, .getfield 15, 3), (4, .aload_n 0, 1), (5, .getfield 9, 3), (8, .arraylength, 1), (9, .if_icmp .ge (25), 3), (12, .aload_n 0, 1), (13, .getfield 9, 3), (16, .aload_n 0, 1), (17, .getfield 15, 3), (20, .iload_n 1, 1), (21, .invokestatic 19, 3), (24, .aload_n 0, 1), (25, .dup, 1), (26, .getfield 15, 3), (29, .iconst 1, 1), (30, .iadd, 1), (31, .putfield 15, 3), (34, .return_, 1)]
set_option maxRecDepth 200000 in
theorem tl_add_code_ok : px_code prog_9_method_3_code tl_add_code = true := by decide +kernel
noncomputable def tl_add_orc : pC := px_orc [(159, fun a h => match a with
    | [.inr (.inl v0), .inl v1, .inl v2] => wu_put v0 v1 v2 h
    | _ => none)]
theorem tl_add_orc_ok {d : Nat} : px_Or (d + 1) (tl_add_orc) := px_orc_ok (by
  refine px_o1 (fun a h q e => by
    dsimp only at e
    split at e
    · exact wu_put_ok (d := d + 0) e
    · cases e) ?_
  exact px_o0)
set_option maxRecDepth 200000 in
theorem tl_add_34_ok {d : Nat} : ∀ (h : pH) (q : Int32 × pH), tl_add_34 h = some q → px_G (d + 1 + 1) (pX_RX7, prog_9_method_3_code, 2, none) 34 [none, none] [] h q := by
  intro h q e
  exact px_blk_ok (d := d + 1) (M := (pX_RX7, prog_9_method_3_code, 2, none)) (C := tl_add_orc) (code := tl_add_code) (ld := []) (kl := []) (tl_add_orc_ok) pX_ok_RX7 tl_add_code_ok (px_k0) 24 34 _ _ h q e
set_option maxRecDepth 200000 in
theorem tl_add_ok {d : Nat} {x1 : Int32} {h : pH} {q : Int32 × pH} (e : tl_add x1 h = some q) : px_Con (d + 2) 82 [.inr (.inl 45), .inl x1] h q :=
  px_con (X := pX_RX7) (b := prog_9_method_3_code) (nL := 2) (rt := none) rfl rfl (Nat.le_of_ble_eq_true rfl) rfl (px_blk_ok (d := d + 1) (M := (pX_RX7, prog_9_method_3_code, 2, none)) (C := tl_add_orc) (code := tl_add_code) (ld := [34]) (kl := [(34, fun ls st h => px_if (px_fit [0, 0] ls && px_fits [] st) (tl_add_34 h))]) (tl_add_orc_ok) pX_ok_RX7 tl_add_code_ok (px_k1 (px_ko (ts := [0, 0]) (ss := []) fun ls st h q e => tl_add_34_ok _ _ e) px_k0) 24 0 _ _ _ q e)
/-! WordsUnsaid$Tale.tell(I)V -/
noncomputable def tl_tell (x1 : Int32) (h : pH) : pR :=
  px_bind (tl_clear h) fun _ h2 =>
  px_bind (tl_add x1 h2) fun _ h4 =>
  some (0, h4)
def tl_tell_code : pCode := [(0, .aload_n 0, 1), (1, .invokevirtual 23, 3), (4, .aload_n 0, 1), (5, .iload_n 1, 1), (6, .invokevirtual 26, 3), (9, .return_, 1)]
set_option maxRecDepth 200000 in
theorem tl_tell_code_ok : px_code prog_9_method_4_code tl_tell_code = true := by decide +kernel
noncomputable def tl_tell_orc : pC := px_orc [(81, fun a h => match a with
    | [.inr (.inl 45)] => tl_clear h
    | _ => none), (82, fun a h => match a with
    | [.inr (.inl 45), .inl v1] => tl_add v1 h
    | _ => none)]
theorem tl_tell_orc_ok {d : Nat} : px_Or (d + 2) (tl_tell_orc) := px_orc_ok (by
  refine px_o1 (fun a h q e => by
    dsimp only at e
    split at e
    · exact tl_clear_ok (d := d + 1) e
    · cases e) ?_
  refine px_o1 (fun a h q e => by
    dsimp only at e
    split at e
    · exact tl_add_ok (d := d + 0) e
    · cases e) ?_
  exact px_o0)
set_option maxRecDepth 200000 in
theorem tl_tell_ok {d : Nat} {x1 : Int32} {h : pH} {q : Int32 × pH} (e : tl_tell x1 h = some q) : px_Con (d + 3) 83 [.inr (.inl 45), .inl x1] h q :=
  px_con (X := pX_RX7) (b := prog_9_method_4_code) (nL := 2) (rt := none) rfl rfl (Nat.le_of_ble_eq_true rfl) rfl (px_blk_ok (d := d + 2) (M := (pX_RX7, prog_9_method_4_code, 2, none)) (C := tl_tell_orc) (code := tl_tell_code) (ld := []) (kl := []) (tl_tell_orc_ok) pX_ok_RX7 tl_tell_code_ok (px_k0) 11 0 _ _ _ q e)
/-! WordsUnsaid$Tale.tell(II)V -/
noncomputable def tl_tell_ (x1 : Int32) (x2 : Int32) (h : pH) : pR :=
  px_bind (tl_tell x1 h) fun _ h2 =>
  px_bind (tl_add x2 h2) fun _ h4 =>
  some (0, h4)
def tl_tell__code : pCode := [(0, .aload_n 0, 1), (1, .iload_n 1, 1), (2, .invokevirtual 30, 3), (5, .aload_n 0, 1), (6, .iload_n 2, 1), (7, .invokevirtual 26, 3), (10, .return_, 1)]
set_option maxRecDepth 200000 in
theorem tl_tell__code_ok : px_code prog_9_method_5_code tl_tell__code = true := by decide +kernel
noncomputable def tl_tell__orc : pC := px_orc [(83, fun a h => match a with
    | [.inr (.inl 45), .inl v1] => tl_tell v1 h
    | _ => none), (82, fun a h => match a with
    | [.inr (.inl 45), .inl v1] => tl_add v1 h
    | _ => none)]
theorem tl_tell__orc_ok {d : Nat} : px_Or (d + 3) (tl_tell__orc) := px_orc_ok (by
  refine px_o1 (fun a h q e => by
    dsimp only at e
    split at e
    · exact tl_tell_ok (d := d + 0) e
    · cases e) ?_
  refine px_o1 (fun a h q e => by
    dsimp only at e
    split at e
    · exact tl_add_ok (d := d + 1) e
    · cases e) ?_
  exact px_o0)
set_option maxRecDepth 200000 in
theorem tl_tell__ok {d : Nat} {x1 : Int32} {x2 : Int32} {h : pH} {q : Int32 × pH} (e : tl_tell_ x1 x2 h = some q) : px_Con (d + 4) 84 [.inr (.inl 45), .inl x1, .inl x2] h q :=
  px_con (X := pX_RX7) (b := prog_9_method_5_code) (nL := 3) (rt := none) rfl rfl (Nat.le_of_ble_eq_true rfl) rfl (px_blk_ok (d := d + 3) (M := (pX_RX7, prog_9_method_5_code, 3, none)) (C := tl_tell__orc) (code := tl_tell__code) (ld := []) (kl := []) (tl_tell__orc_ok) pX_ok_RX7 tl_tell__code_ok (px_k0) 12 0 _ _ _ q e)
/-! WordsUnsaid$Tale.tell(III)V -/
noncomputable def tl_tell__ (x1 : Int32) (x2 : Int32) (x3 : Int32) (h : pH) : pR :=
  px_bind (tl_tell_ x1 x2 h) fun _ h2 =>
  px_bind (tl_add x3 h2) fun _ h4 =>
  some (0, h4)
def tl_tell___code : pCode := [(0, .aload_n 0, 1), (1, .iload_n 1, 1), (2, .iload_n 2, 1), (3, .invokevirtual 33, 3), (6, .aload_n 0, 1), (7, .iload_n 3, 1), (8, .invokevirtual 26, 3), (11, .return_, 1)]
set_option maxRecDepth 200000 in
theorem tl_tell___code_ok : px_code prog_9_method_6_code tl_tell___code = true := by decide +kernel
noncomputable def tl_tell___orc : pC := px_orc [(84, fun a h => match a with
    | [.inr (.inl 45), .inl v1, .inl v2] => tl_tell_ v1 v2 h
    | _ => none), (82, fun a h => match a with
    | [.inr (.inl 45), .inl v1] => tl_add v1 h
    | _ => none)]
theorem tl_tell___orc_ok {d : Nat} : px_Or (d + 4) (tl_tell___orc) := px_orc_ok (by
  refine px_o1 (fun a h q e => by
    dsimp only at e
    split at e
    · exact tl_tell__ok (d := d + 0) e
    · cases e) ?_
  refine px_o1 (fun a h q e => by
    dsimp only at e
    split at e
    · exact tl_add_ok (d := d + 2) e
    · cases e) ?_
  exact px_o0)
set_option maxRecDepth 200000 in
theorem tl_tell___ok {d : Nat} {x1 : Int32} {x2 : Int32} {x3 : Int32} {h : pH} {q : Int32 × pH} (e : tl_tell__ x1 x2 x3 h = some q) : px_Con (d + 5) 85 [.inr (.inl 45), .inl x1, .inl x2, .inl x3] h q :=
  px_con (X := pX_RX7) (b := prog_9_method_6_code) (nL := 4) (rt := none) rfl rfl (Nat.le_of_ble_eq_true rfl) rfl (px_blk_ok (d := d + 4) (M := (pX_RX7, prog_9_method_6_code, 4, none)) (C := tl_tell___orc) (code := tl_tell___code) (ld := []) (kl := []) (tl_tell___orc_ok) pX_ok_RX7 tl_tell___code_ok (px_k0) 13 0 _ _ _ q e)
/-! WordsUnsaid$House.readThing(LWordsUnsaid$Text;)Z -/
noncomputable def hs_readThing_43 (h : pH) : pR :=
  px_bz (px_c 0) h
noncomputable def hs_readThing_106 (x2 : Int32) (x3 : Int32) (x4 : Int32) (x5 : Int32) (h : pH) : pR :=
  px_bind (wu_put 7 (h 3 13) x3 h) fun _ h2 =>
  px_bind (wu_put 8 (h2 3 13) x3 h2) fun _ h4 =>
  px_bind (wu_put 9 (h4 3 13) x4 h4) fun _ h6 =>
  px_bind (wu_put 10 (h6 3 13) x2 h6) fun _ h8 =>
  px_bind (wu_put 11 (h8 3 13) x5 h8) fun _ h10 =>
  px_bind (wu_put 12 (h10 3 13) (px_c 0) h10) fun _ h12 =>
  px_bind (wu_put 13 (h12 3 13) ((px_c 1) <<< (x2 &&& 31)) h12) fun _ h14 =>
  let h15 := px_w h14 3 13 ((h14 3 13) + (px_c 1))
  px_bz (px_c 1) h15
noncomputable def hs_readThing_28 (x2 : Int32) (s0 : Int32) (h : pH) : pR :=
  if s0 = (px_c (-1)) then
    hs_readThing_43 h
  else
    px_bind (tx_take (px_c 42) h) fun z1 h2 =>
    if z1 = 0 then
      hs_readThing_43 h2
    else
      px_bind (tx_number (px_c 1) (px_c 0) (px_c 9) h2) fun z3 h4 =>
      if z3 = (px_c (-1)) then
        px_bz (px_c 0) h4
      else
        px_bind (tx_meet (px_c 62) h4) fun z5 h6 =>
        if z5 = 0 then
          hs_readThing_106 x2 s0 z3 (px_c (-1)) h6
        else
          px_bind (tx_letter (px_c 97) (h6 3 12) h6) fun z7 h8 =>
          if z7 = (px_c (-1)) then
            px_bz (px_c 0) h8
          else
            if z7 = x2 then
              px_bind (tx_refuseLast h8) fun z9 h10 =>
              px_bz z9 h10
            else
              hs_readThing_106 x2 s0 z3 z7 h8
noncomputable def hs_readThing (h : pH) : pR :=
  px_bind (tx_letter (px_c 97) (h 3 12) h) fun z1 h2 =>
  if z1 = (px_c (-1)) then
    hs_readThing_28 z1 (px_c (-1)) h2
  else
    px_bind (tx_number (px_c 2) (px_c 1) (px_c 40) h2) fun z3 h4 =>
    hs_readThing_28 z1 z3 h4
def hs_readThing_code : pCode := [(0, .aload_n 1, 1), (1, .bipush (97), 2), (3, .aload_n 0, 1), (4, .getfield 51, 3), (7, .invokevirtual 101, 3), (10, .istore_n 2, 1), (11, .iload_n 2, 1), (12, .iconst (-1), 1), (13, .if_icmp .ne (7), 3), (16, .iconst (-1), 1), (17, .goto (11), 3), (20, .aload_n 1, 1), (21, .iconst 2, 1), (22, .iconst 1, 1), (23, .bipush (40), 2), (25, .invokevirtual 93, 3), (28, .istore_n 3, 1), (29, .iload_n 3, 1), (30, .iconst (-1), 1), (31, .if_icmp .eq (12), 3), (34, .aload_n 1, 1), (35, .bipush (42), 2), (37, .invokevirtual 105, 3), (40, .ifCond .ne (5), 3), (43, .iconst 0, 1), (44, .ireturn, 1), (45, .aload_n 1, 1), (46, .iconst 1, 1), (47, .iconst 0, 1), (48, .bipush (9), 2), (50, .invokevirtual 93, 3), (53, .istore 4, 2), (55, .iload 4, 2), (57, .iconst (-1), 1), (58, .if_icmp .ne (5), 3), (61, .iconst 0, 1), (62, .ireturn, 1), (63, .iconst (-1), 1), (64, .istore 5, 2), (66, .aload_n 1, 1), (67, .bipush (62), 2), (69, .invokevirtual 72, 3), (72, .ifCond .eq (34), 3), (75, .aload_n 1, 1), (76, .bipush (97), 2), (78, .aload_n 0, 1), (79, .getfield 51, 3), (82, .invokevirtual 101, 3), (85, .istore 5, 2), (87, .iload 5, 2), (89, .iconst (-1), 1), (90, .if_icmp .ne (5), 3), (93, .iconst 0, 1), (94, .ireturn, 1), (95, .iload 5, 2), (97, .iload_n 2, 1), (98, .if_icmp .ne (8), 3), (101, .aload_n 1, 1), (102, .invokevirtual 108, 3), (105, .ireturn, 1), (106, .aload_n 0, 1), (107, .getfield 21, 3), (110, .aload_n 0, 1), (111, .getfield 57, 3), (114, .iload_n 3, 1), (115, .invokestatic 97, 3), (118, .aload_n 0, 1), (119, .getfield 24, 3), (122, .aload_n 0, 1), (123, .getfield 57, 3), (126, .iload_n 3, 1), (127, .invokestatic 97, 3), (130, .aload_n 0, 1), (131, .getfield 27, 3), (134, .aload_n 0, 1), (135, .getfield 57, 3), (138, .iload 4, 2), (140, .invokestatic 97, 3), (143, .aload_n 0, 1), (144, .getfield 30, 3), (147, .aload_n 0, 1), (148, .getfield 57, 3), (151, .iload_n 2, 1), (152, .invokestatic 97, 3), (155, .aload_n 0, 1), (156, .getfield 33, 3), (159, .aload_n 0, 1), (160, .getfield 57, 3), (163, .iload 5, 2), (165, .invokestatic 97, 3), (168, .aload_n 0, 1), (169, .getfield 36, 3), (172, .aload_n 0, 1), (173, .getfield 57, 3), (176, .iconst 0, 1), (177, .invokestatic 97, 3), (180, .aload_n 0, 1), (181, .getfield 39, 3), (184, .aload_n 0, 1), (185, .getfield 57, 3), (188, .iconst 1, 1), (189, .iload_n 2, 1), (190, .ishl, 1), (191, .invokestatic 97, 3), (194, .aload_n 0, 1), (195, .dup, 1), (196, .getfield 57, 3), (199, .iconst 1, 1), (200, .iadd, 1), (201, .putfield 57, 3), (204, .iconst 1, 1), (205, .ireturn, 1)]
set_option maxRecDepth 200000 in
theorem hs_readThing_code_ok : px_code prog_5_method_6_code hs_readThing_code = true := by decide +kernel
noncomputable def hs_readThing_orc : pC := px_orc [(159, fun a h => match a with
    | [.inr (.inl v0), .inl v1, .inl v2] => wu_put v0 v1 v2 h
    | _ => none), (92, fun a h => match a with
    | [.inr (.inl 1), .inl v1] => tx_take v1 h
    | _ => none), (98, fun a h => match a with
    | [.inr (.inl 1), .inl v1, .inl v2, .inl v3] => tx_number v1 v2 v3 h
    | _ => none), (91, fun a h => match a with
    | [.inr (.inl 1), .inl v1] => tx_meet v1 h
    | _ => none), (99, fun a h => match a with
    | [.inr (.inl 1), .inl v1, .inl v2] => tx_letter v1 v2 h
    | _ => none), (94, fun a h => match a with
    | [.inr (.inl 1)] => tx_refuseLast h
    | _ => none)]
theorem hs_readThing_orc_ok {d : Nat} : px_Or (d + 3) (hs_readThing_orc) := px_orc_ok (by
  refine px_o1 (fun a h q e => by
    dsimp only at e
    split at e
    · exact wu_put_ok (d := d + 2) e
    · cases e) ?_
  refine px_o1 (fun a h q e => by
    dsimp only at e
    split at e
    · exact tx_take_ok (d := d + 0) e
    · cases e) ?_
  refine px_o1 (fun a h q e => by
    dsimp only at e
    split at e
    · exact tx_number_ok (d := d + 0) e
    · cases e) ?_
  refine px_o1 (fun a h q e => by
    dsimp only at e
    split at e
    · exact tx_meet_ok (d := d + 1) e
    · cases e) ?_
  refine px_o1 (fun a h q e => by
    dsimp only at e
    split at e
    · exact tx_letter_ok (d := d + 1) e
    · cases e) ?_
  refine px_o1 (fun a h q e => by
    dsimp only at e
    split at e
    · exact tx_refuseLast_ok (d := d + 2) e
    · cases e) ?_
  exact px_o0)
set_option maxRecDepth 200000 in
theorem hs_readThing_43_ok {d : Nat} : ∀ (h : pH) (q : Int32 × pH), hs_readThing_43 h = some q → px_G (d + 3 + 1) (pX_RX3, prog_5_method_6_code, 6, (some .boolean)) 43 [none, none, none, none, none, none] [] h q := by
  intro h q e
  exact px_blk_ok (d := d + 3) (M := (pX_RX3, prog_5_method_6_code, 6, (some .boolean))) (C := hs_readThing_orc) (code := hs_readThing_code) (ld := []) (kl := []) (hs_readThing_orc_ok) pX_ok_RX3 hs_readThing_code_ok (px_k0) 117 43 _ _ h q e
set_option maxRecDepth 200000 in
theorem hs_readThing_106_ok {d : Nat} : ∀ (x2 : Int32) (x3 : Int32) (x4 : Int32) (x5 : Int32) (h : pH) (q : Int32 × pH), hs_readThing_106 x2 x3 x4 x5 h = some q → px_G (d + 3 + 1) (pX_RX3, prog_5_method_6_code, 6, (some .boolean)) 106 [some (.inr (.inl 3)), none, some (.inl x2), some (.inl x3), some (.inl x4), some (.inl x5)] [] h q := by
  intro x2 x3 x4 x5 h q e
  exact px_blk_ok (d := d + 3) (M := (pX_RX3, prog_5_method_6_code, 6, (some .boolean))) (C := hs_readThing_orc) (code := hs_readThing_code) (ld := []) (kl := []) (hs_readThing_orc_ok) pX_ok_RX3 hs_readThing_code_ok (px_k0) 117 106 _ _ h q e
set_option maxRecDepth 200000 in
theorem hs_readThing_28_ok {d : Nat} : ∀ (x2 : Int32) (s0 : Int32) (h : pH) (q : Int32 × pH), hs_readThing_28 x2 s0 h = some q → px_G (d + 3 + 1) (pX_RX3, prog_5_method_6_code, 6, (some .boolean)) 28 [some (.inr (.inl 3)), some (.inr (.inl 1)), some (.inl x2), none, none, none] [.inl s0] h q := by
  intro x2 s0 h q e
  exact px_blk_ok (d := d + 3) (M := (pX_RX3, prog_5_method_6_code, 6, (some .boolean))) (C := hs_readThing_orc) (code := hs_readThing_code) (ld := [106, 43]) (kl := [(106, fun ls st h => px_if (px_fit [13, 0, 1, 1, 1, 1] ls && px_fits [] st) (hs_readThing_106 (px_gi ls 2) (px_gi ls 3) (px_gi ls 4) (px_gi ls 5) h)), (43, fun ls st h => px_if (px_fit [0, 0, 0, 0, 0, 0] ls && px_fits [] st) (hs_readThing_43 h))]) (hs_readThing_orc_ok) pX_ok_RX3 hs_readThing_code_ok (px_k1 (px_ko (ts := [13, 0, 1, 1, 1, 1]) (ss := []) fun ls st h q e => hs_readThing_106_ok _ _ _ _ _ _ e) (px_k1 (px_ko (ts := [0, 0, 0, 0, 0, 0]) (ss := []) fun ls st h q e => hs_readThing_43_ok _ _ e) px_k0)) 117 28 _ _ h q e
set_option maxRecDepth 200000 in
theorem hs_readThing_ok {d : Nat} {h : pH} {q : Int32 × pH} (e : hs_readThing h = some q) : px_Con (d + 4) 24 [.inr (.inl 3), .inr (.inl 1)] h q :=
  px_con (X := pX_RX3) (b := prog_5_method_6_code) (nL := 6) (rt := (some .boolean)) rfl rfl (Nat.le_of_ble_eq_true rfl) rfl (px_blk_ok (d := d + 3) (M := (pX_RX3, prog_5_method_6_code, 6, (some .boolean))) (C := hs_readThing_orc) (code := hs_readThing_code) (ld := [28]) (kl := [(28, fun ls st h => px_if (px_fit [13, 11, 1, 0, 0, 0] ls && px_fits [1] st) (hs_readThing_28 (px_gi ls 2) (px_si st 0) h))]) (hs_readThing_orc_ok) pX_ok_RX3 hs_readThing_code_ok (px_k1 (px_ko (ts := [13, 11, 1, 0, 0, 0]) (ss := [1]) fun ls st h q e => hs_readThing_28_ok _ _ _ _ e) px_k0) 117 0 _ _ _ q e)
/-! WordsUnsaid$House.readPerson(LWordsUnsaid$Text;)Z -/
noncomputable def hs_readPerson_36 (x2 : Int32) (s0 : Int32) (h : pH) : pR :=
  if s0 = (px_c (-1)) then
    px_bz (px_c 0) h
  else
    px_bind (wu_put 4 (h 3 12) x2 h) fun _ h2 =>
    px_bind (wu_put 5 (h2 3 12) s0 h2) fun _ h4 =>
    px_bind (wu_put 6 (h4 3 12) (px_c 5) h4) fun _ h6 =>
    let h7 := px_w h6 3 12 ((h6 3 12) + (px_c 1))
    px_bz (px_c 1) h7
noncomputable def hs_readPerson (h : pH) : pR :=
  px_bind (tx_number (px_c 2) (px_c 1) (px_c 99) h) fun z1 h2 =>
  if z1 = (px_c (-1)) then
    px_bz (px_c 0) h2
  else
    px_bind (tx_meet (px_c 64) h2) fun z3 h4 =>
    if z3 = 0 then
      hs_readPerson_36 z1 (px_c 0) h4
    else
      px_bind (tx_number (px_c 1) (px_c 0) (px_c 1) h4) fun z5 h6 =>
      hs_readPerson_36 z1 z5 h6
def hs_readPerson_code : pCode := [(0, .aload_n 1, 1), (1, .iconst 2, 1), (2, .iconst 1, 1), (3, .bipush (99), 2), (5, .invokevirtual 93, 3), (8, .istore_n 2, 1), (9, .iload_n 2, 1), (10, .iconst (-1), 1), (11, .if_icmp .ne (5), 3), (14, .iconst 0, 1), (15, .ireturn, 1), (16, .aload_n 1, 1), (17, .bipush (64), 2), (19, .invokevirtual 72, 3), (22, .ifCond .eq (13), 3), (25, .aload_n 1, 1), (26, .iconst 1, 1), (27, .iconst 0, 1), (28, .iconst 1, 1), (29, .invokevirtual 93, 3), (32, .goto (4), 3), (35, .iconst 0, 1), (36, .istore_n 3, 1), (37, .iload_n 3, 1), (38, .iconst (-1), 1), (39, .if_icmp .ne (5), 3), (42, .iconst 0, 1), (43, .ireturn, 1), (44, .aload_n 0, 1), (45, .getfield 9, 3), (48, .aload_n 0, 1), (49, .getfield 51, 3), (52, .iload_n 2, 1), (53, .invokestatic 97, 3), (56, .aload_n 0, 1), (57, .getfield 15, 3), (60, .aload_n 0, 1), (61, .getfield 51, 3), (64, .iload_n 3, 1), (65, .invokestatic 97, 3), (68, .aload_n 0, 1), (69, .getfield 18, 3), (72, .aload_n 0, 1), (73, .getfield 51, 3), (76, .iconst 5, 1), (77, .invokestatic 97, 3), (80, .aload_n 0, 1), (81, .dup, 1), (82, .getfield 51, 3), (85, .iconst 1, 1), (86, .iadd, 1), (87, .putfield 51, 3), (90, .iconst 1, 1), (91, .ireturn, 1)]
set_option maxRecDepth 200000 in
theorem hs_readPerson_code_ok : px_code prog_5_method_5_code hs_readPerson_code = true := by decide +kernel
noncomputable def hs_readPerson_orc : pC := px_orc [(159, fun a h => match a with
    | [.inr (.inl v0), .inl v1, .inl v2] => wu_put v0 v1 v2 h
    | _ => none), (98, fun a h => match a with
    | [.inr (.inl 1), .inl v1, .inl v2, .inl v3] => tx_number v1 v2 v3 h
    | _ => none), (91, fun a h => match a with
    | [.inr (.inl 1), .inl v1] => tx_meet v1 h
    | _ => none)]
theorem hs_readPerson_orc_ok {d : Nat} : px_Or (d + 3) (hs_readPerson_orc) := px_orc_ok (by
  refine px_o1 (fun a h q e => by
    dsimp only at e
    split at e
    · exact wu_put_ok (d := d + 2) e
    · cases e) ?_
  refine px_o1 (fun a h q e => by
    dsimp only at e
    split at e
    · exact tx_number_ok (d := d + 0) e
    · cases e) ?_
  refine px_o1 (fun a h q e => by
    dsimp only at e
    split at e
    · exact tx_meet_ok (d := d + 1) e
    · cases e) ?_
  exact px_o0)
set_option maxRecDepth 200000 in
theorem hs_readPerson_36_ok {d : Nat} : ∀ (x2 : Int32) (s0 : Int32) (h : pH) (q : Int32 × pH), hs_readPerson_36 x2 s0 h = some q → px_G (d + 3 + 1) (pX_RX3, prog_5_method_5_code, 4, (some .boolean)) 36 [some (.inr (.inl 3)), none, some (.inl x2), none] [.inl s0] h q := by
  intro x2 s0 h q e
  exact px_blk_ok (d := d + 3) (M := (pX_RX3, prog_5_method_5_code, 4, (some .boolean))) (C := hs_readPerson_orc) (code := hs_readPerson_code) (ld := []) (kl := []) (hs_readPerson_orc_ok) pX_ok_RX3 hs_readPerson_code_ok (px_k0) 59 36 _ _ h q e
set_option maxRecDepth 200000 in
theorem hs_readPerson_ok {d : Nat} {h : pH} {q : Int32 × pH} (e : hs_readPerson h = some q) : px_Con (d + 4) 23 [.inr (.inl 3), .inr (.inl 1)] h q :=
  px_con (X := pX_RX3) (b := prog_5_method_5_code) (nL := 4) (rt := (some .boolean)) rfl rfl (Nat.le_of_ble_eq_true rfl) rfl (px_blk_ok (d := d + 3) (M := (pX_RX3, prog_5_method_5_code, 4, (some .boolean))) (C := hs_readPerson_orc) (code := hs_readPerson_code) (ld := [36]) (kl := [(36, fun ls st h => px_if (px_fit [13, 0, 1, 0] ls && px_fits [1] st) (hs_readPerson_36 (px_gi ls 2) (px_si st 0) h))]) (hs_readPerson_orc_ok) pX_ok_RX3 hs_readPerson_code_ok (px_k1 (px_ko (ts := [13, 0, 1, 0]) (ss := [1]) fun ls st h q e => hs_readPerson_36_ok _ _ _ _ e) px_k0) 59 0 _ _ _ q e)
/-! WordsUnsaid$House.readLine(LWordsUnsaid$Text;)Z -/
noncomputable def hs_readLine_48 (h : pH) : pR :=
  px_bind (tx_refuse h) fun z1 h2 =>
  px_bz z1 h2
noncomputable def hs_readLine_24 (h : pH) : pR :=
  if (px_c 10) ≤ (h 3 13) then
    hs_readLine_48 h
  else
    px_bind (tx_meet (px_c 116) h) fun z1 h2 =>
    if z1 = 0 then
      hs_readLine_48 h2
    else
      px_bind (hs_readThing h2) fun z3 h4 =>
      px_bz z3 h4
noncomputable def hs_readLine (h : pH) : pR :=
  if (px_c 6) ≤ (h 3 12) then
    hs_readLine_24 h
  else
    px_bind (tx_meet (px_c 112) h) fun z1 h2 =>
    if z1 = 0 then
      hs_readLine_24 h2
    else
      px_bind (hs_readPerson h2) fun z3 h4 =>
      px_bz z3 h4
def hs_readLine_code : pCode := [(0, .aload_n 0, 1), (1, .getfield 51, 3), (4, .bipush (6), 2), (6, .if_icmp .ge (18), 3), (9, .aload_n 1, 1), (10, .bipush (112), 2), (12, .invokevirtual 72, 3), (15, .ifCond .eq (9), 3), (18, .aload_n 0, 1), (19, .aload_n 1, 1), (20, .invokevirtual 84, 3), (23, .ireturn, 1), (24, .aload_n 0, 1), (25, .getfield 57, 3), (28, .bipush (10), 2), (30, .if_icmp .ge (18), 3), (33, .aload_n 1, 1), (34, .bipush (116), 2), (36, .invokevirtual 72, 3), (39, .ifCond .eq (9), 3), (42, .aload_n 0, 1), (43, .aload_n 1, 1), (44, .invokevirtual 87, 3), (47, .ireturn, 1), (48, .aload_n 1, 1), (49, .invokevirtual 90, 3), (52, .ireturn, 1)]
set_option maxRecDepth 200000 in
theorem hs_readLine_code_ok : px_code prog_5_method_4_code hs_readLine_code = true := by decide +kernel
noncomputable def hs_readLine_orc : pC := px_orc [(93, fun a h => match a with
    | [.inr (.inl 1)] => tx_refuse h
    | _ => none), (91, fun a h => match a with
    | [.inr (.inl 1), .inl v1] => tx_meet v1 h
    | _ => none), (24, fun a h => match a with
    | [.inr (.inl 3), .inr (.inl 1)] => hs_readThing h
    | _ => none), (23, fun a h => match a with
    | [.inr (.inl 3), .inr (.inl 1)] => hs_readPerson h
    | _ => none)]
theorem hs_readLine_orc_ok {d : Nat} : px_Or (d + 4) (hs_readLine_orc) := px_orc_ok (by
  refine px_o1 (fun a h q e => by
    dsimp only at e
    split at e
    · exact tx_refuse_ok (d := d + 3) e
    · cases e) ?_
  refine px_o1 (fun a h q e => by
    dsimp only at e
    split at e
    · exact tx_meet_ok (d := d + 2) e
    · cases e) ?_
  refine px_o1 (fun a h q e => by
    dsimp only at e
    split at e
    · exact hs_readThing_ok (d := d + 0) e
    · cases e) ?_
  refine px_o1 (fun a h q e => by
    dsimp only at e
    split at e
    · exact hs_readPerson_ok (d := d + 0) e
    · cases e) ?_
  exact px_o0)
set_option maxRecDepth 200000 in
theorem hs_readLine_48_ok {d : Nat} : ∀ (h : pH) (q : Int32 × pH), hs_readLine_48 h = some q → px_G (d + 4 + 1) (pX_RX3, prog_5_method_4_code, 2, (some .boolean)) 48 [none, some (.inr (.inl 1))] [] h q := by
  intro h q e
  exact px_blk_ok (d := d + 4) (M := (pX_RX3, prog_5_method_4_code, 2, (some .boolean))) (C := hs_readLine_orc) (code := hs_readLine_code) (ld := []) (kl := []) (hs_readLine_orc_ok) pX_ok_RX3 hs_readLine_code_ok (px_k0) 32 48 _ _ h q e
set_option maxRecDepth 200000 in
theorem hs_readLine_24_ok {d : Nat} : ∀ (h : pH) (q : Int32 × pH), hs_readLine_24 h = some q → px_G (d + 4 + 1) (pX_RX3, prog_5_method_4_code, 2, (some .boolean)) 24 [some (.inr (.inl 3)), some (.inr (.inl 1))] [] h q := by
  intro h q e
  exact px_blk_ok (d := d + 4) (M := (pX_RX3, prog_5_method_4_code, 2, (some .boolean))) (C := hs_readLine_orc) (code := hs_readLine_code) (ld := [48]) (kl := [(48, fun ls st h => px_if (px_fit [0, 11] ls && px_fits [] st) (hs_readLine_48 h))]) (hs_readLine_orc_ok) pX_ok_RX3 hs_readLine_code_ok (px_k1 (px_ko (ts := [0, 11]) (ss := []) fun ls st h q e => hs_readLine_48_ok _ _ e) px_k0) 32 24 _ _ h q e
set_option maxRecDepth 200000 in
theorem hs_readLine_ok {d : Nat} {h : pH} {q : Int32 × pH} (e : hs_readLine h = some q) : px_Con (d + 5) 22 [.inr (.inl 3), .inr (.inl 1)] h q :=
  px_con (X := pX_RX3) (b := prog_5_method_4_code) (nL := 2) (rt := (some .boolean)) rfl rfl (Nat.le_of_ble_eq_true rfl) rfl (px_blk_ok (d := d + 4) (M := (pX_RX3, prog_5_method_4_code, 2, (some .boolean))) (C := hs_readLine_orc) (code := hs_readLine_code) (ld := [24]) (kl := [(24, fun ls st h => px_if (px_fit [13, 11] ls && px_fits [] st) (hs_readLine_24 h))]) (hs_readLine_orc_ok) pX_ok_RX3 hs_readLine_code_ok (px_k1 (px_ko (ts := [13, 11]) (ss := []) fun ls st h q e => hs_readLine_24_ok _ _ e) px_k0) 32 0 _ _ _ q e)
/-! WordsUnsaid$House.moveIn(I)I -/
noncomputable def hs_moveIn (x1 : Int32) (h : pH) : pR :=
  let h1 := px_w h 3 10 (h 3 12)
  let h2 := px_w h1 3 11 (h1 3 13)
  some (x1, h2)
def hs_moveIn_code : pCode := [(0, .aload_n 0, 1), (1, .aload_n 0, 1), (2, .getfield 51, 3), (5, .putfield 48, 3), (8, .aload_n 0, 1), (9, .aload_n 0, 1), (10, .getfield 57, 3), (13, .putfield 54, 3), (16, .iload_n 1, 1), (17, .ireturn, 1)]
set_option maxRecDepth 200000 in
theorem hs_moveIn_code_ok : px_code prog_5_method_3_code hs_moveIn_code = true := by decide +kernel
noncomputable def hs_moveIn_orc : pC := px_orc []
theorem hs_moveIn_orc_ok {d : Nat} : px_Or (d + 0) (hs_moveIn_orc) := px_orc_ok (by
  exact px_o0)
set_option maxRecDepth 200000 in
theorem hs_moveIn_ok {d : Nat} {x1 : Int32} {h : pH} {q : Int32 × pH} (e : hs_moveIn x1 h = some q) : px_Con (d + 1) 21 [.inr (.inl 3), .inl x1] h q :=
  px_con (X := pX_RX3) (b := prog_5_method_3_code) (nL := 2) (rt := (some .int)) rfl rfl (Nat.le_of_ble_eq_true rfl) rfl (px_blk_ok (d := d + 0) (M := (pX_RX3, prog_5_method_3_code, 2, (some .int))) (C := hs_moveIn_orc) (code := hs_moveIn_code) (ld := []) (kl := []) (hs_moveIn_orc_ok) pX_ok_RX3 hs_moveIn_code_ok (px_k0) 15 0 _ _ _ q e)
/-! WordsUnsaid$House.read(LWordsUnsaid$Text;)I -/
noncomputable def hs_read_80 (s0 : Int32) (h : pH) : pR :=
  some (s0, h)
noncomputable def hs_read_33 : Nat → Int32 → pH → pR
  | 0, _, _ => none
  | n + 1, x2, h =>
    if (px_c 76) < x2 then
      some (px_c (-1), h)
    else
      px_bind (hs_readLine h) fun z1 h2 =>
      if z1 = 0 then
        px_bind (tx_answer h2) fun z3 h4 =>
        some (z3, h4)
      else
        px_bind (tx_meet (px_c 59) h2) fun z5 h6 =>
        if z5 = 0 then
          px_bind (tx_closes h6) fun z7 h8 =>
          if z7 = 0 then
            px_bind (tx_answer h8) fun z9 h10 =>
            hs_read_80 z9 h10
          else
            px_bind (hs_moveIn x2 h8) fun z11 h12 =>
            hs_read_80 z11 h12
        else
          hs_read_33 n (x2 + px_c 1) h6
noncomputable def hs_read (h : pH) : pR :=
  if (h 1 1) = 0 then
    some (px_c 0, h)
  else
    let h1 := px_w h 3 12 (h 3 10)
    let h2 := px_w h1 3 13 (h1 3 11)
    px_bind (tx_open (px_c 76) h2) fun _ h4 =>
    hs_read_33 px_F (px_c 1) h4
def hs_read_code : pCode := [(0, .aload_n 1, 1), (1, .getfield 42, 3), (4, .ifCond .ne (5), 3), (7, .iconst 0, 1), (8, .ireturn, 1), (9, .aload_n 0, 1), (10, .aload_n 0, 1), (11, .getfield 48, 3), (14, .putfield 51, 3), (17, .aload_n 0, 1), (18, .aload_n 0, 1), (19, .getfield 54, 3), (22, .putfield 57, 3), (25, .aload_n 1, 1), (26, .bipush (76), 2), (28, .invokevirtual 60, 3), (31, .iconst 1, 1), (32, .istore_n 2, 1), (33, .iload_n 2, 1), (34, .bipush (76), 2), (36, .if_icmp .gt (51), 3), (39, .aload_n 0, 1), (40, .aload_n 1, 1), (41, .invokevirtual 64, 3), (44, .ifCond .ne (8), 3), (47, .aload_n 1, 1), (48, .invokevirtual 68, 3), (51, .ireturn, 1), (52, .aload_n 1, 1), (53, .bipush (59), 2), (55, .invokevirtual 72, 3), (58, .ifCond .ne (23), 3), (61, .aload_n 1, 1), (62, .invokevirtual 76, 3), (65, .ifCond .eq (11), 3), (68, .aload_n 0, 1), (69, .iload_n 2, 1), (70, .invokevirtual 80, 3), (73, .goto (7), 3), (76, .aload_n 1, 1), (77, .invokevirtual 68, 3), (80, .ireturn, 1), (81, .iinc 2 (1), 3), (84, .goto (-51), 3), (87, .iconst (-1), 1), (88, .ireturn, 1)]
set_option maxRecDepth 200000 in
theorem hs_read_code_ok : px_code prog_5_method_2_code hs_read_code = true := by decide +kernel
noncomputable def hs_read_orc : pC := px_orc [(22, fun a h => match a with
    | [.inr (.inl 3), .inr (.inl 1)] => hs_readLine h
    | _ => none), (95, fun a h => match a with
    | [.inr (.inl 1)] => tx_answer h
    | _ => none), (91, fun a h => match a with
    | [.inr (.inl 1), .inl v1] => tx_meet v1 h
    | _ => none), (96, fun a h => match a with
    | [.inr (.inl 1)] => tx_closes h
    | _ => none), (21, fun a h => match a with
    | [.inr (.inl 3), .inl v1] => hs_moveIn v1 h
    | _ => none), (88, fun a h => match a with
    | [.inr (.inl 1), .inl v1] => tx_open v1 h
    | _ => none)]
theorem hs_read_orc_ok {d : Nat} : px_Or (d + 5) (hs_read_orc) := px_orc_ok (by
  refine px_o1 (fun a h q e => by
    dsimp only at e
    split at e
    · exact hs_readLine_ok (d := d + 0) e
    · cases e) ?_
  refine px_o1 (fun a h q e => by
    dsimp only at e
    split at e
    · exact tx_answer_ok (d := d + 4) e
    · cases e) ?_
  refine px_o1 (fun a h q e => by
    dsimp only at e
    split at e
    · exact tx_meet_ok (d := d + 3) e
    · cases e) ?_
  refine px_o1 (fun a h q e => by
    dsimp only at e
    split at e
    · exact tx_closes_ok (d := d + 3) e
    · cases e) ?_
  refine px_o1 (fun a h q e => by
    dsimp only at e
    split at e
    · exact hs_moveIn_ok (d := d + 4) e
    · cases e) ?_
  refine px_o1 (fun a h q e => by
    dsimp only at e
    split at e
    · exact tx_open_ok (d := d + 4) e
    · cases e) ?_
  exact px_o0)
set_option maxRecDepth 200000 in
theorem hs_read_80_ok {d : Nat} : ∀ (s0 : Int32) (h : pH) (q : Int32 × pH), hs_read_80 s0 h = some q → px_G (d + 5 + 1) (pX_RX3, prog_5_method_2_code, 3, (some .int)) 80 [none, none, none] [.inl s0] h q := by
  intro s0 h q e
  exact px_blk_ok (d := d + 5) (M := (pX_RX3, prog_5_method_2_code, 3, (some .int))) (C := hs_read_orc) (code := hs_read_code) (ld := []) (kl := []) (hs_read_orc_ok) pX_ok_RX3 hs_read_code_ok (px_k0) 51 80 _ _ h q e
set_option maxRecDepth 200000 in
theorem hs_read_33_ok {d : Nat} : ∀ (n : Nat) (x2 : Int32) (h : pH) (q : Int32 × pH), hs_read_33 n x2 h = some q → px_G (d + 5 + 1) (pX_RX3, prog_5_method_2_code, 3, (some .int)) 33 [some (.inr (.inl 3)), some (.inr (.inl 1)), some (.inl x2)] [] h q := by
  intro n
  induction n with
  | zero =>
    intro x2 h q e
    cases e
  | succ n ih =>
    intro x2 h q e
    exact px_blk_ok (d := d + 5) (M := (pX_RX3, prog_5_method_2_code, 3, (some .int))) (C := hs_read_orc) (code := hs_read_code) (ld := [33, 80]) (kl := [(33, fun ls st h => px_if (px_fit [13, 11, 1] ls && px_fits [] st) (hs_read_33 n (px_gi ls 2) h)), (80, fun ls st h => px_if (px_fit [0, 0, 0] ls && px_fits [1] st) (hs_read_80 (px_si st 0) h))]) (hs_read_orc_ok) pX_ok_RX3 hs_read_code_ok (px_k1 (px_ko (ts := [13, 11, 1]) (ss := []) fun ls st h q e => ih _ _ _ e) (px_k1 (px_ko (ts := [0, 0, 0]) (ss := [1]) fun ls st h q e => hs_read_80_ok _ _ _ e) px_k0)) 51 33 _ _ h q e
set_option maxRecDepth 200000 in
theorem hs_read_ok {d : Nat} {h : pH} {q : Int32 × pH} (e : hs_read h = some q) : px_Con (d + 6) 20 [.inr (.inl 3), .inr (.inl 1)] h q :=
  px_con (X := pX_RX3) (b := prog_5_method_2_code) (nL := 3) (rt := (some .int)) rfl rfl (Nat.le_of_ble_eq_true rfl) rfl (px_blk_ok (d := d + 5) (M := (pX_RX3, prog_5_method_2_code, 3, (some .int))) (C := hs_read_orc) (code := hs_read_code) (ld := [33]) (kl := [(33, fun ls st h => px_if (px_fit [13, 11, 1] ls && px_fits [] st) (hs_read_33 px_F (px_gi ls 2) h))]) (hs_read_orc_ok) pX_ok_RX3 hs_read_code_ok (px_k1 (px_ko (ts := [13, 11, 1]) (ss := []) fun ls st h q e => hs_read_33_ok _ _ _ _ e) px_k0) 51 0 _ _ _ q e)
/-! WordsUnsaid$House.hasPerson(I)Z -/
noncomputable def hs_hasPerson_17 (s0 : Int32) (h : pH) : pR :=
  px_bz s0 h
noncomputable def hs_hasPerson_16 (h : pH) : pR :=
  hs_hasPerson_17 (px_c 0) h
noncomputable def hs_hasPerson (x1 : Int32) (h : pH) : pR :=
  if x1 < 0 then
    hs_hasPerson_16 h
  else
    if (h 3 10) ≤ x1 then
      hs_hasPerson_16 h
    else
      hs_hasPerson_17 (px_c 1) h
def hs_hasPerson_code : pCode := [(0, .iload_n 1, 1), (1, .ifCond .lt (15), 3), (4, .iload_n 1, 1), (5, .aload_n 0, 1), (6, .getfield 48, 3), (9, .if_icmp .ge (7), 3), (12, .iconst 1, 1), (13, .goto (4), 3), (16, .iconst 0, 1), (17, .ireturn, 1)]
set_option maxRecDepth 200000 in
theorem hs_hasPerson_code_ok : px_code prog_5_method_7_code hs_hasPerson_code = true := by decide +kernel
noncomputable def hs_hasPerson_orc : pC := px_orc []
theorem hs_hasPerson_orc_ok {d : Nat} : px_Or (d + 0) (hs_hasPerson_orc) := px_orc_ok (by
  exact px_o0)
set_option maxRecDepth 200000 in
theorem hs_hasPerson_17_ok {d : Nat} : ∀ (s0 : Int32) (h : pH) (q : Int32 × pH), hs_hasPerson_17 s0 h = some q → px_G (d + 0 + 1) (pX_RX3, prog_5_method_7_code, 2, (some .boolean)) 17 [none, none] [.inl s0] h q := by
  intro s0 h q e
  exact px_blk_ok (d := d + 0) (M := (pX_RX3, prog_5_method_7_code, 2, (some .boolean))) (C := hs_hasPerson_orc) (code := hs_hasPerson_code) (ld := []) (kl := []) (hs_hasPerson_orc_ok) pX_ok_RX3 hs_hasPerson_code_ok (px_k0) 15 17 _ _ h q e
set_option maxRecDepth 200000 in
theorem hs_hasPerson_16_ok {d : Nat} : ∀ (h : pH) (q : Int32 × pH), hs_hasPerson_16 h = some q → px_G (d + 0 + 1) (pX_RX3, prog_5_method_7_code, 2, (some .boolean)) 16 [none, none] [] h q := by
  intro h q e
  exact px_blk_ok (d := d + 0) (M := (pX_RX3, prog_5_method_7_code, 2, (some .boolean))) (C := hs_hasPerson_orc) (code := hs_hasPerson_code) (ld := [17]) (kl := [(17, fun ls st h => px_if (px_fit [0, 0] ls && px_fits [1] st) (hs_hasPerson_17 (px_si st 0) h))]) (hs_hasPerson_orc_ok) pX_ok_RX3 hs_hasPerson_code_ok (px_k1 (px_ko (ts := [0, 0]) (ss := [1]) fun ls st h q e => hs_hasPerson_17_ok _ _ _ e) px_k0) 15 16 _ _ h q e
set_option maxRecDepth 200000 in
theorem hs_hasPerson_ok {d : Nat} {x1 : Int32} {h : pH} {q : Int32 × pH} (e : hs_hasPerson x1 h = some q) : px_Con (d + 1) 25 [.inr (.inl 3), .inl x1] h q :=
  px_con (X := pX_RX3) (b := prog_5_method_7_code) (nL := 2) (rt := (some .boolean)) rfl rfl (Nat.le_of_ble_eq_true rfl) rfl (px_blk_ok (d := d + 0) (M := (pX_RX3, prog_5_method_7_code, 2, (some .boolean))) (C := hs_hasPerson_orc) (code := hs_hasPerson_code) (ld := [16, 17]) (kl := [(16, fun ls st h => px_if (px_fit [0, 0] ls && px_fits [] st) (hs_hasPerson_16 h)), (17, fun ls st h => px_if (px_fit [0, 0] ls && px_fits [1] st) (hs_hasPerson_17 (px_si st 0) h))]) (hs_hasPerson_orc_ok) pX_ok_RX3 hs_hasPerson_code_ok (px_k1 (px_ko (ts := [0, 0]) (ss := []) fun ls st h q e => hs_hasPerson_16_ok _ _ e) (px_k1 (px_ko (ts := [0, 0]) (ss := [1]) fun ls st h q e => hs_hasPerson_17_ok _ _ _ e) px_k0)) 15 0 _ _ _ q e)
/-! WordsUnsaid$House.hasThing(I)Z -/
noncomputable def hs_hasThing_17 (s0 : Int32) (h : pH) : pR :=
  px_bz s0 h
noncomputable def hs_hasThing_16 (h : pH) : pR :=
  hs_hasThing_17 (px_c 0) h
noncomputable def hs_hasThing (x1 : Int32) (h : pH) : pR :=
  if x1 < 0 then
    hs_hasThing_16 h
  else
    if (h 3 11) ≤ x1 then
      hs_hasThing_16 h
    else
      hs_hasThing_17 (px_c 1) h
def hs_hasThing_code : pCode := [(0, .iload_n 1, 1), (1, .ifCond .lt (15), 3), (4, .iload_n 1, 1), (5, .aload_n 0, 1), (6, .getfield 54, 3), (9, .if_icmp .ge (7), 3), (12, .iconst 1, 1), (13, .goto (4), 3), (16, .iconst 0, 1), (17, .ireturn, 1)]
set_option maxRecDepth 200000 in
theorem hs_hasThing_code_ok : px_code prog_5_method_8_code hs_hasThing_code = true := by decide +kernel
noncomputable def hs_hasThing_orc : pC := px_orc []
theorem hs_hasThing_orc_ok {d : Nat} : px_Or (d + 0) (hs_hasThing_orc) := px_orc_ok (by
  exact px_o0)
set_option maxRecDepth 200000 in
theorem hs_hasThing_17_ok {d : Nat} : ∀ (s0 : Int32) (h : pH) (q : Int32 × pH), hs_hasThing_17 s0 h = some q → px_G (d + 0 + 1) (pX_RX3, prog_5_method_8_code, 2, (some .boolean)) 17 [none, none] [.inl s0] h q := by
  intro s0 h q e
  exact px_blk_ok (d := d + 0) (M := (pX_RX3, prog_5_method_8_code, 2, (some .boolean))) (C := hs_hasThing_orc) (code := hs_hasThing_code) (ld := []) (kl := []) (hs_hasThing_orc_ok) pX_ok_RX3 hs_hasThing_code_ok (px_k0) 15 17 _ _ h q e
set_option maxRecDepth 200000 in
theorem hs_hasThing_16_ok {d : Nat} : ∀ (h : pH) (q : Int32 × pH), hs_hasThing_16 h = some q → px_G (d + 0 + 1) (pX_RX3, prog_5_method_8_code, 2, (some .boolean)) 16 [none, none] [] h q := by
  intro h q e
  exact px_blk_ok (d := d + 0) (M := (pX_RX3, prog_5_method_8_code, 2, (some .boolean))) (C := hs_hasThing_orc) (code := hs_hasThing_code) (ld := [17]) (kl := [(17, fun ls st h => px_if (px_fit [0, 0] ls && px_fits [1] st) (hs_hasThing_17 (px_si st 0) h))]) (hs_hasThing_orc_ok) pX_ok_RX3 hs_hasThing_code_ok (px_k1 (px_ko (ts := [0, 0]) (ss := [1]) fun ls st h q e => hs_hasThing_17_ok _ _ _ e) px_k0) 15 16 _ _ h q e
set_option maxRecDepth 200000 in
theorem hs_hasThing_ok {d : Nat} {x1 : Int32} {h : pH} {q : Int32 × pH} (e : hs_hasThing x1 h = some q) : px_Con (d + 1) 26 [.inr (.inl 3), .inl x1] h q :=
  px_con (X := pX_RX3) (b := prog_5_method_8_code) (nL := 2) (rt := (some .boolean)) rfl rfl (Nat.le_of_ble_eq_true rfl) rfl (px_blk_ok (d := d + 0) (M := (pX_RX3, prog_5_method_8_code, 2, (some .boolean))) (C := hs_hasThing_orc) (code := hs_hasThing_code) (ld := [16, 17]) (kl := [(16, fun ls st h => px_if (px_fit [0, 0] ls && px_fits [] st) (hs_hasThing_16 h)), (17, fun ls st h => px_if (px_fit [0, 0] ls && px_fits [1] st) (hs_hasThing_17 (px_si st 0) h))]) (hs_hasThing_orc_ok) pX_ok_RX3 hs_hasThing_code_ok (px_k1 (px_ko (ts := [0, 0]) (ss := []) fun ls st h q e => hs_hasThing_16_ok _ _ e) (px_k1 (px_ko (ts := [0, 0]) (ss := [1]) fun ls st h q e => hs_hasThing_17_ok _ _ _ e) px_k0)) 15 0 _ _ _ q e)
/-! WordsUnsaid$House.peopleAt(I)I -/
noncomputable def hs_peopleAt_32 (r4 : Int32 → Int32 → Int32 → pH → pR) (x1 : Int32) (x3 : Int32) (s0 : Int32) (s1 : Int32) (h : pH) : pR :=
  let y2_1 := s1 ||| s0
  r4 x1 y2_1 (x3 + px_c 1) h
noncomputable def hs_peopleAt_4 : Nat → Int32 → Int32 → Int32 → pH → pR
  | 0, _, _, _, _ => none
  | n + 1, x1, x2, x3, h =>
    if (h 3 10) ≤ x3 then
      some (x2, h)
    else
      px_bind (wu_at 5 x3 h) fun z1 h2 =>
      if z1 = x1 then
        hs_peopleAt_32 (hs_peopleAt_4 n) x1 x3 ((px_c 1) <<< (x3 &&& 31)) x2 h2
      else
        hs_peopleAt_32 (hs_peopleAt_4 n) x1 x3 (px_c 0) x2 h2
noncomputable def hs_peopleAt (x1 : Int32) (h : pH) : pR :=
  hs_peopleAt_4 px_F x1 (px_c 0) (px_c 0) h
def hs_peopleAt_code : pCode := [(0, .iconst 0, 1), (1, .istore_n 2, 1), (2, .iconst 0, 1), (3, .istore_n 3, 1), (4, .iload_n 3, 1), (5, .aload_n 0, 1), (6, .getfield 48, 3), (9, .if_icmp .ge (31), 3), (12, .iload_n 2, 1), (13, .aload_n 0, 1), (14, .getfield 15, 3), (17, .iload_n 3, 1), (18, .invokestatic 111, 3), (21, .iload_n 1, 1), (22, .if_icmp .ne (9), 3), (25, .iconst 1, 1), (26, .iload_n 3, 1), (27, .ishl, 1), (28, .goto (4), 3), (31, .iconst 0, 1), (32, .ior, 1), (33, .istore_n 2, 1), (34, .iinc 3 (1), 3), (37, .goto (-33), 3), (40, .iload_n 2, 1), (41, .ireturn, 1)]
set_option maxRecDepth 200000 in
theorem hs_peopleAt_code_ok : px_code prog_5_method_9_code hs_peopleAt_code = true := by decide +kernel
noncomputable def hs_peopleAt_orc : pC := px_orc [(158, fun a h => match a with
    | [.inr (.inl v0), .inl v1] => wu_at v0 v1 h
    | _ => none)]
theorem hs_peopleAt_orc_ok {d : Nat} : px_Or (d + 1) (hs_peopleAt_orc) := px_orc_ok (by
  refine px_o1 (fun a h q e => by
    dsimp only at e
    split at e
    · exact wu_at_ok (d := d + 0) e
    · cases e) ?_
  exact px_o0)
set_option maxRecDepth 200000 in
theorem hs_peopleAt_32_ok {d : Nat} {r4 : Int32 → Int32 → Int32 → pH → pR} (hr4 : ∀ (x1 : Int32) (x2 : Int32) (x3 : Int32) (h : pH) (q : Int32 × pH), r4 x1 x2 x3 h = some q → px_G (d + 1 + 1) (pX_RX3, prog_5_method_9_code, 4, (some .int)) 4 [some (.inr (.inl 3)), some (.inl x1), some (.inl x2), some (.inl x3)] [] h q) : ∀ (x1 : Int32) (x3 : Int32) (s0 : Int32) (s1 : Int32) (h : pH) (q : Int32 × pH), hs_peopleAt_32 r4 x1 x3 s0 s1 h = some q → px_G (d + 1 + 1) (pX_RX3, prog_5_method_9_code, 4, (some .int)) 32 [some (.inr (.inl 3)), some (.inl x1), none, some (.inl x3)] [.inl s0, .inl s1] h q := by
  intro x1 x3 s0 s1 h q e
  exact px_blk_ok (d := d + 1) (M := (pX_RX3, prog_5_method_9_code, 4, (some .int))) (C := hs_peopleAt_orc) (code := hs_peopleAt_code) (ld := [4]) (kl := [(4, fun ls st h => px_if (px_fit [13, 1, 1, 1] ls && px_fits [] st) (r4 (px_gi ls 1) (px_gi ls 2) (px_gi ls 3) h))]) (hs_peopleAt_orc_ok) pX_ok_RX3 hs_peopleAt_code_ok (px_k1 (px_ko (ts := [13, 1, 1, 1]) (ss := []) fun ls st h q e => hr4 _ _ _ _ _ e) px_k0) 31 32 _ _ h q e
set_option maxRecDepth 200000 in
theorem hs_peopleAt_4_ok {d : Nat} : ∀ (n : Nat) (x1 : Int32) (x2 : Int32) (x3 : Int32) (h : pH) (q : Int32 × pH), hs_peopleAt_4 n x1 x2 x3 h = some q → px_G (d + 1 + 1) (pX_RX3, prog_5_method_9_code, 4, (some .int)) 4 [some (.inr (.inl 3)), some (.inl x1), some (.inl x2), some (.inl x3)] [] h q := by
  intro n
  induction n with
  | zero =>
    intro x1 x2 x3 h q e
    cases e
  | succ n ih =>
    intro x1 x2 x3 h q e
    exact px_blk_ok (d := d + 1) (M := (pX_RX3, prog_5_method_9_code, 4, (some .int))) (C := hs_peopleAt_orc) (code := hs_peopleAt_code) (ld := [32]) (kl := [(32, fun ls st h => px_if (px_fit [13, 1, 0, 1] ls && px_fits [1, 1] st) (hs_peopleAt_32 (hs_peopleAt_4 n) (px_gi ls 1) (px_gi ls 3) (px_si st 0) (px_si st 1) h))]) (hs_peopleAt_orc_ok) pX_ok_RX3 hs_peopleAt_code_ok (px_k1 (px_ko (ts := [13, 1, 0, 1]) (ss := [1, 1]) fun ls st h q e => hs_peopleAt_32_ok ih _ _ _ _ _ _ e) px_k0) 31 4 _ _ h q e
set_option maxRecDepth 200000 in
theorem hs_peopleAt_ok {d : Nat} {x1 : Int32} {h : pH} {q : Int32 × pH} (e : hs_peopleAt x1 h = some q) : px_Con (d + 2) 27 [.inr (.inl 3), .inl x1] h q :=
  px_con (X := pX_RX3) (b := prog_5_method_9_code) (nL := 4) (rt := (some .int)) rfl rfl (Nat.le_of_ble_eq_true rfl) rfl (px_blk_ok (d := d + 1) (M := (pX_RX3, prog_5_method_9_code, 4, (some .int))) (C := hs_peopleAt_orc) (code := hs_peopleAt_code) (ld := [4]) (kl := [(4, fun ls st h => px_if (px_fit [13, 1, 1, 1] ls && px_fits [] st) (hs_peopleAt_4 px_F (px_gi ls 1) (px_gi ls 2) (px_gi ls 3) h))]) (hs_peopleAt_orc_ok) pX_ok_RX3 hs_peopleAt_code_ok (px_k1 (px_ko (ts := [13, 1, 1, 1]) (ss := []) fun ls st h q e => hs_peopleAt_4_ok _ _ _ _ _ _ e) px_k0) 31 0 _ _ _ q e)
/-! WordsUnsaid$House.onIslets()I -/
noncomputable def hs_onIslets (h : pH) : pR :=
  px_bind (hs_peopleAt (px_c 0) h) fun z1 h2 =>
  px_bind (hs_peopleAt (px_c 1) h2) fun z3 h4 =>
  some (((((px_c 1) <<< ((h 3 10) &&& 31)) - (px_c 1)) &&& (z1 ^^^ (px_c (-1)))) &&& (z3 ^^^ (px_c (-1))), h4)
def hs_onIslets_code : pCode := [(0, .iconst 1, 1), (1, .aload_n 0, 1), (2, .getfield 48, 3), (5, .ishl, 1), (6, .iconst 1, 1), (7, .isub, 1), (8, .aload_n 0, 1), (9, .iconst 0, 1), (10, .invokevirtual 115, 3), (13, .iconst (-1), 1), (14, .ixor, 1), (15, .iand, 1), (16, .aload_n 0, 1), (17, .iconst 1, 1), (18, .invokevirtual 115, 3), (21, .iconst (-1), 1), (22, .ixor, 1), (23, .iand, 1), (24, .ireturn, 1)]
set_option maxRecDepth 200000 in
theorem hs_onIslets_code_ok : px_code prog_5_method_10_code hs_onIslets_code = true := by decide +kernel
noncomputable def hs_onIslets_orc : pC := px_orc [(27, fun a h => match a with
    | [.inr (.inl 3), .inl v1] => hs_peopleAt v1 h
    | _ => none)]
theorem hs_onIslets_orc_ok {d : Nat} : px_Or (d + 2) (hs_onIslets_orc) := px_orc_ok (by
  refine px_o1 (fun a h q e => by
    dsimp only at e
    split at e
    · exact hs_peopleAt_ok (d := d + 0) e
    · cases e) ?_
  exact px_o0)
set_option maxRecDepth 200000 in
theorem hs_onIslets_ok {d : Nat} {h : pH} {q : Int32 × pH} (e : hs_onIslets h = some q) : px_Con (d + 3) 28 [.inr (.inl 3)] h q :=
  px_con (X := pX_RX3) (b := prog_5_method_10_code) (nL := 1) (rt := (some .int)) rfl rfl (Nat.le_of_ble_eq_true rfl) rfl (px_blk_ok (d := d + 2) (M := (pX_RX3, prog_5_method_10_code, 1, (some .int))) (C := hs_onIslets_orc) (code := hs_onIslets_code) (ld := []) (kl := []) (hs_onIslets_orc_ok) pX_ok_RX3 hs_onIslets_code_ok (px_k0) 24 0 _ _ _ q e)
/-! WordsUnsaid$House.placeOfAll(I)I -/
noncomputable def hs_placeOfAll_14 (h : pH) : pR :=
  some (px_c (-1), h)
noncomputable def hs_placeOfAll_45 (s0 : Int32) (h : pH) : pR :=
  some (s0, h)
noncomputable def hs_placeOfAll (x1 : Int32) (h : pH) : pR :=
  if x1 ≤ 0 then
    hs_placeOfAll_14 h
  else
    if x1 < ((px_c 1) <<< ((h 3 10) &&& 31)) then
      px_bind (wu_firstOf x1 h) fun z1 h2 =>
      px_bind (wu_at 5 z1 h2) fun z3 h4 =>
      px_bind (hs_peopleAt z3 h4) fun z5 h6 =>
      if (x1 &&& (z5 ^^^ (px_c (-1)))) = 0 then
        hs_placeOfAll_45 z3 h6
      else
        hs_placeOfAll_45 (px_c (-1)) h6
    else
      hs_placeOfAll_14 h
def hs_placeOfAll_code : pCode := [(0, .iload_n 1, 1), (1, .ifCond .le (13), 3), (4, .iload_n 1, 1), (5, .iconst 1, 1), (6, .aload_n 0, 1), (7, .getfield 48, 3), (10, .ishl, 1), (11, .if_icmp .lt (5), 3), (14, .iconst (-1), 1), (15, .ireturn, 1), (16, .aload_n 0, 1), (17, .getfield 15, 3), (20, .iload_n 1, 1), (21, .invokestatic 118, 3), (24, .invokestatic 111, 3), (27, .istore_n 2, 1), (28, .iload_n 1, 1), (29, .aload_n 0, 1), (30, .iload_n 2, 1), (31, .invokevirtual 115, 3), (34, .iconst (-1), 1), (35, .ixor, 1), (36, .iand, 1), (37, .ifCond .ne (7), 3), (40, .iload_n 2, 1), (41, .goto (4), 3), (44, .iconst (-1), 1), (45, .ireturn, 1)]
set_option maxRecDepth 200000 in
theorem hs_placeOfAll_code_ok : px_code prog_5_method_11_code hs_placeOfAll_code = true := by decide +kernel
noncomputable def hs_placeOfAll_orc : pC := px_orc [(161, fun a h => match a with
    | [.inl v0] => wu_firstOf v0 h
    | _ => none), (158, fun a h => match a with
    | [.inr (.inl v0), .inl v1] => wu_at v0 v1 h
    | _ => none), (27, fun a h => match a with
    | [.inr (.inl 3), .inl v1] => hs_peopleAt v1 h
    | _ => none)]
theorem hs_placeOfAll_orc_ok {d : Nat} : px_Or (d + 2) (hs_placeOfAll_orc) := px_orc_ok (by
  refine px_o1 (fun a h q e => by
    dsimp only at e
    split at e
    · exact wu_firstOf_ok (d := d + 0) e
    · cases e) ?_
  refine px_o1 (fun a h q e => by
    dsimp only at e
    split at e
    · exact wu_at_ok (d := d + 1) e
    · cases e) ?_
  refine px_o1 (fun a h q e => by
    dsimp only at e
    split at e
    · exact hs_peopleAt_ok (d := d + 0) e
    · cases e) ?_
  exact px_o0)
set_option maxRecDepth 200000 in
theorem hs_placeOfAll_14_ok {d : Nat} : ∀ (h : pH) (q : Int32 × pH), hs_placeOfAll_14 h = some q → px_G (d + 2 + 1) (pX_RX3, prog_5_method_11_code, 3, (some .int)) 14 [none, none, none] [] h q := by
  intro h q e
  exact px_blk_ok (d := d + 2) (M := (pX_RX3, prog_5_method_11_code, 3, (some .int))) (C := hs_placeOfAll_orc) (code := hs_placeOfAll_code) (ld := []) (kl := []) (hs_placeOfAll_orc_ok) pX_ok_RX3 hs_placeOfAll_code_ok (px_k0) 33 14 _ _ h q e
set_option maxRecDepth 200000 in
theorem hs_placeOfAll_45_ok {d : Nat} : ∀ (s0 : Int32) (h : pH) (q : Int32 × pH), hs_placeOfAll_45 s0 h = some q → px_G (d + 2 + 1) (pX_RX3, prog_5_method_11_code, 3, (some .int)) 45 [none, none, none] [.inl s0] h q := by
  intro s0 h q e
  exact px_blk_ok (d := d + 2) (M := (pX_RX3, prog_5_method_11_code, 3, (some .int))) (C := hs_placeOfAll_orc) (code := hs_placeOfAll_code) (ld := []) (kl := []) (hs_placeOfAll_orc_ok) pX_ok_RX3 hs_placeOfAll_code_ok (px_k0) 33 45 _ _ h q e
set_option maxRecDepth 200000 in
theorem hs_placeOfAll_ok {d : Nat} {x1 : Int32} {h : pH} {q : Int32 × pH} (e : hs_placeOfAll x1 h = some q) : px_Con (d + 3) 29 [.inr (.inl 3), .inl x1] h q :=
  px_con (X := pX_RX3) (b := prog_5_method_11_code) (nL := 3) (rt := (some .int)) rfl rfl (Nat.le_of_ble_eq_true rfl) rfl (px_blk_ok (d := d + 2) (M := (pX_RX3, prog_5_method_11_code, 3, (some .int))) (C := hs_placeOfAll_orc) (code := hs_placeOfAll_code) (ld := [45, 14]) (kl := [(45, fun ls st h => px_if (px_fit [0, 0, 0] ls && px_fits [1] st) (hs_placeOfAll_45 (px_si st 0) h)), (14, fun ls st h => px_if (px_fit [0, 0, 0] ls && px_fits [] st) (hs_placeOfAll_14 h))]) (hs_placeOfAll_orc_ok) pX_ok_RX3 hs_placeOfAll_code_ok (px_k1 (px_ko (ts := [0, 0, 0]) (ss := [1]) fun ls st h q e => hs_placeOfAll_45_ok _ _ _ e) (px_k1 (px_ko (ts := [0, 0, 0]) (ss := []) fun ls st h q e => hs_placeOfAll_14_ok _ _ e) px_k0)) 33 0 _ _ _ q e)
/-! WordsUnsaid$House.thingsOf(I)I -/
noncomputable def hs_thingsOf_35 (r4 : Int32 → Int32 → Int32 → pH → pR) (x1 : Int32) (x3 : Int32) (s0 : Int32) (s1 : Int32) (h : pH) : pR :=
  let y2_1 := s1 ||| s0
  r4 x1 y2_1 (x3 + px_c 1) h
noncomputable def hs_thingsOf_4 : Nat → Int32 → Int32 → Int32 → pH → pR
  | 0, _, _, _, _ => none
  | n + 1, x1, x2, x3, h =>
    if (h 3 11) ≤ x3 then
      some (x2, h)
    else
      px_bind (wu_at 10 x3 h) fun z1 h2 =>
      px_bind (wu_has x1 z1 h2) fun z3 h4 =>
      if z3 = 0 then
        hs_thingsOf_35 (hs_thingsOf_4 n) x1 x3 (px_c 0) x2 h4
      else
        hs_thingsOf_35 (hs_thingsOf_4 n) x1 x3 ((px_c 1) <<< (x3 &&& 31)) x2 h4
noncomputable def hs_thingsOf (x1 : Int32) (h : pH) : pR :=
  hs_thingsOf_4 px_F x1 (px_c 0) (px_c 0) h
def hs_thingsOf_code : pCode := [(0, .iconst 0, 1), (1, .istore_n 2, 1), (2, .iconst 0, 1), (3, .istore_n 3, 1), (4, .iload_n 3, 1), (5, .aload_n 0, 1), (6, .getfield 54, 3), (9, .if_icmp .ge (34), 3), (12, .iload_n 2, 1), (13, .iload_n 1, 1), (14, .aload_n 0, 1), (15, .getfield 30, 3), (18, .iload_n 3, 1), (19, .invokestatic 111, 3), (22, .invokestatic 121, 3), (25, .ifCond .eq (9), 3), (28, .iconst 1, 1), (29, .iload_n 3, 1), (30, .ishl, 1), (31, .goto (4), 3), (34, .iconst 0, 1), (35, .ior, 1), (36, .istore_n 2, 1), (37, .iinc 3 (1), 3), (40, .goto (-36), 3), (43, .iload_n 2, 1), (44, .ireturn, 1)]
set_option maxRecDepth 200000 in
theorem hs_thingsOf_code_ok : px_code prog_5_method_12_code hs_thingsOf_code = true := by decide +kernel
noncomputable def hs_thingsOf_orc : pC := px_orc [(158, fun a h => match a with
    | [.inr (.inl v0), .inl v1] => wu_at v0 v1 h
    | _ => none), (160, fun a h => match a with
    | [.inl v0, .inl v1] => wu_has v0 v1 h
    | _ => none)]
theorem hs_thingsOf_orc_ok {d : Nat} : px_Or (d + 1) (hs_thingsOf_orc) := px_orc_ok (by
  refine px_o1 (fun a h q e => by
    dsimp only at e
    split at e
    · exact wu_at_ok (d := d + 0) e
    · cases e) ?_
  refine px_o1 (fun a h q e => by
    dsimp only at e
    split at e
    · exact wu_has_ok (d := d + 0) e
    · cases e) ?_
  exact px_o0)
set_option maxRecDepth 200000 in
theorem hs_thingsOf_35_ok {d : Nat} {r4 : Int32 → Int32 → Int32 → pH → pR} (hr4 : ∀ (x1 : Int32) (x2 : Int32) (x3 : Int32) (h : pH) (q : Int32 × pH), r4 x1 x2 x3 h = some q → px_G (d + 1 + 1) (pX_RX3, prog_5_method_12_code, 4, (some .int)) 4 [some (.inr (.inl 3)), some (.inl x1), some (.inl x2), some (.inl x3)] [] h q) : ∀ (x1 : Int32) (x3 : Int32) (s0 : Int32) (s1 : Int32) (h : pH) (q : Int32 × pH), hs_thingsOf_35 r4 x1 x3 s0 s1 h = some q → px_G (d + 1 + 1) (pX_RX3, prog_5_method_12_code, 4, (some .int)) 35 [some (.inr (.inl 3)), some (.inl x1), none, some (.inl x3)] [.inl s0, .inl s1] h q := by
  intro x1 x3 s0 s1 h q e
  exact px_blk_ok (d := d + 1) (M := (pX_RX3, prog_5_method_12_code, 4, (some .int))) (C := hs_thingsOf_orc) (code := hs_thingsOf_code) (ld := [4]) (kl := [(4, fun ls st h => px_if (px_fit [13, 1, 1, 1] ls && px_fits [] st) (r4 (px_gi ls 1) (px_gi ls 2) (px_gi ls 3) h))]) (hs_thingsOf_orc_ok) pX_ok_RX3 hs_thingsOf_code_ok (px_k1 (px_ko (ts := [13, 1, 1, 1]) (ss := []) fun ls st h q e => hr4 _ _ _ _ _ e) px_k0) 32 35 _ _ h q e
set_option maxRecDepth 200000 in
theorem hs_thingsOf_4_ok {d : Nat} : ∀ (n : Nat) (x1 : Int32) (x2 : Int32) (x3 : Int32) (h : pH) (q : Int32 × pH), hs_thingsOf_4 n x1 x2 x3 h = some q → px_G (d + 1 + 1) (pX_RX3, prog_5_method_12_code, 4, (some .int)) 4 [some (.inr (.inl 3)), some (.inl x1), some (.inl x2), some (.inl x3)] [] h q := by
  intro n
  induction n with
  | zero =>
    intro x1 x2 x3 h q e
    cases e
  | succ n ih =>
    intro x1 x2 x3 h q e
    exact px_blk_ok (d := d + 1) (M := (pX_RX3, prog_5_method_12_code, 4, (some .int))) (C := hs_thingsOf_orc) (code := hs_thingsOf_code) (ld := [35]) (kl := [(35, fun ls st h => px_if (px_fit [13, 1, 0, 1] ls && px_fits [1, 1] st) (hs_thingsOf_35 (hs_thingsOf_4 n) (px_gi ls 1) (px_gi ls 3) (px_si st 0) (px_si st 1) h))]) (hs_thingsOf_orc_ok) pX_ok_RX3 hs_thingsOf_code_ok (px_k1 (px_ko (ts := [13, 1, 0, 1]) (ss := [1, 1]) fun ls st h q e => hs_thingsOf_35_ok ih _ _ _ _ _ _ e) px_k0) 32 4 _ _ h q e
set_option maxRecDepth 200000 in
theorem hs_thingsOf_ok {d : Nat} {x1 : Int32} {h : pH} {q : Int32 × pH} (e : hs_thingsOf x1 h = some q) : px_Con (d + 2) 30 [.inr (.inl 3), .inl x1] h q :=
  px_con (X := pX_RX3) (b := prog_5_method_12_code) (nL := 4) (rt := (some .int)) rfl rfl (Nat.le_of_ble_eq_true rfl) rfl (px_blk_ok (d := d + 1) (M := (pX_RX3, prog_5_method_12_code, 4, (some .int))) (C := hs_thingsOf_orc) (code := hs_thingsOf_code) (ld := [4]) (kl := [(4, fun ls st h => px_if (px_fit [13, 1, 1, 1] ls && px_fits [] st) (hs_thingsOf_4 px_F (px_gi ls 1) (px_gi ls 2) (px_gi ls 3) h))]) (hs_thingsOf_orc_ok) pX_ok_RX3 hs_thingsOf_code_ok (px_k1 (px_ko (ts := [13, 1, 1, 1]) (ss := []) fun ls st h q e => hs_thingsOf_4_ok _ _ _ _ _ _ e) px_k0) 32 0 _ _ _ q e)
/-! WordsUnsaid$House.isUnsaidOf(II)Z -/
noncomputable def hs_isUnsaidOf_39 (s0 : Int32) (h : pH) : pR :=
  px_bz s0 h
noncomputable def hs_isUnsaidOf_38 (h : pH) : pR :=
  hs_isUnsaidOf_39 (px_c 0) h
noncomputable def hs_isUnsaidOf (x1 : Int32) (x2 : Int32) (h : pH) : pR :=
  px_bind (hs_hasThing x2 h) fun z1 h2 =>
  if z1 = 0 then
    hs_isUnsaidOf_38 h2
  else
    px_bind (wu_at 10 x2 h2) fun z3 h4 =>
    px_bind (wu_has x1 z3 h4) fun z5 h6 =>
    if z5 = 0 then
      hs_isUnsaidOf_38 h6
    else
      px_bind (wu_at 12 x2 h6) fun z7 h8 =>
      if z7 = 0 then
        hs_isUnsaidOf_39 (px_c 1) h8
      else
        hs_isUnsaidOf_38 h8
def hs_isUnsaidOf_code : pCode := [(0, .aload_n 0, 1), (1, .iload_n 2, 1), (2, .invokevirtual 125, 3), (5, .ifCond .eq (33), 3), (8, .iload_n 1, 1), (9, .aload_n 0, 1), (10, .getfield 30, 3), (13, .iload_n 2, 1), (14, .invokestatic 111, 3), (17, .invokestatic 121, 3), (20, .ifCond .eq (18), 3), (23, .aload_n 0, 1), (24, .getfield 36, 3), (27, .iload_n 2, 1), (28, .invokestatic 111, 3), (31, .ifCond .ne (7), 3), (34, .iconst 1, 1), (35, .goto (4), 3), (38, .iconst 0, 1), (39, .ireturn, 1)]
set_option maxRecDepth 200000 in
theorem hs_isUnsaidOf_code_ok : px_code prog_5_method_13_code hs_isUnsaidOf_code = true := by decide +kernel
noncomputable def hs_isUnsaidOf_orc : pC := px_orc [(26, fun a h => match a with
    | [.inr (.inl 3), .inl v1] => hs_hasThing v1 h
    | _ => none), (158, fun a h => match a with
    | [.inr (.inl v0), .inl v1] => wu_at v0 v1 h
    | _ => none), (160, fun a h => match a with
    | [.inl v0, .inl v1] => wu_has v0 v1 h
    | _ => none)]
theorem hs_isUnsaidOf_orc_ok {d : Nat} : px_Or (d + 1) (hs_isUnsaidOf_orc) := px_orc_ok (by
  refine px_o1 (fun a h q e => by
    dsimp only at e
    split at e
    · exact hs_hasThing_ok (d := d + 0) e
    · cases e) ?_
  refine px_o1 (fun a h q e => by
    dsimp only at e
    split at e
    · exact wu_at_ok (d := d + 0) e
    · cases e) ?_
  refine px_o1 (fun a h q e => by
    dsimp only at e
    split at e
    · exact wu_has_ok (d := d + 0) e
    · cases e) ?_
  exact px_o0)
set_option maxRecDepth 200000 in
theorem hs_isUnsaidOf_39_ok {d : Nat} : ∀ (s0 : Int32) (h : pH) (q : Int32 × pH), hs_isUnsaidOf_39 s0 h = some q → px_G (d + 1 + 1) (pX_RX3, prog_5_method_13_code, 3, (some .boolean)) 39 [none, none, none] [.inl s0] h q := by
  intro s0 h q e
  exact px_blk_ok (d := d + 1) (M := (pX_RX3, prog_5_method_13_code, 3, (some .boolean))) (C := hs_isUnsaidOf_orc) (code := hs_isUnsaidOf_code) (ld := []) (kl := []) (hs_isUnsaidOf_orc_ok) pX_ok_RX3 hs_isUnsaidOf_code_ok (px_k0) 25 39 _ _ h q e
set_option maxRecDepth 200000 in
theorem hs_isUnsaidOf_38_ok {d : Nat} : ∀ (h : pH) (q : Int32 × pH), hs_isUnsaidOf_38 h = some q → px_G (d + 1 + 1) (pX_RX3, prog_5_method_13_code, 3, (some .boolean)) 38 [none, none, none] [] h q := by
  intro h q e
  exact px_blk_ok (d := d + 1) (M := (pX_RX3, prog_5_method_13_code, 3, (some .boolean))) (C := hs_isUnsaidOf_orc) (code := hs_isUnsaidOf_code) (ld := [39]) (kl := [(39, fun ls st h => px_if (px_fit [0, 0, 0] ls && px_fits [1] st) (hs_isUnsaidOf_39 (px_si st 0) h))]) (hs_isUnsaidOf_orc_ok) pX_ok_RX3 hs_isUnsaidOf_code_ok (px_k1 (px_ko (ts := [0, 0, 0]) (ss := [1]) fun ls st h q e => hs_isUnsaidOf_39_ok _ _ _ e) px_k0) 25 38 _ _ h q e
set_option maxRecDepth 200000 in
theorem hs_isUnsaidOf_ok {d : Nat} {x1 : Int32} {x2 : Int32} {h : pH} {q : Int32 × pH} (e : hs_isUnsaidOf x1 x2 h = some q) : px_Con (d + 2) 31 [.inr (.inl 3), .inl x1, .inl x2] h q :=
  px_con (X := pX_RX3) (b := prog_5_method_13_code) (nL := 3) (rt := (some .boolean)) rfl rfl (Nat.le_of_ble_eq_true rfl) rfl (px_blk_ok (d := d + 1) (M := (pX_RX3, prog_5_method_13_code, 3, (some .boolean))) (C := hs_isUnsaidOf_orc) (code := hs_isUnsaidOf_code) (ld := [38, 39]) (kl := [(38, fun ls st h => px_if (px_fit [0, 0, 0] ls && px_fits [] st) (hs_isUnsaidOf_38 h)), (39, fun ls st h => px_if (px_fit [0, 0, 0] ls && px_fits [1] st) (hs_isUnsaidOf_39 (px_si st 0) h))]) (hs_isUnsaidOf_orc_ok) pX_ok_RX3 hs_isUnsaidOf_code_ok (px_k1 (px_ko (ts := [0, 0, 0]) (ss := []) fun ls st h q e => hs_isUnsaidOf_38_ok _ _ e) (px_k1 (px_ko (ts := [0, 0, 0]) (ss := [1]) fun ls st h q e => hs_isUnsaidOf_39_ok _ _ _ e) px_k0)) 25 0 _ _ _ q e)
/-! WordsUnsaid$House.unsaidOf(I)I -/
noncomputable def hs_unsaidOf_29 (r4 : Int32 → Int32 → Int32 → pH → pR) (x1 : Int32) (x3 : Int32) (s0 : Int32) (s1 : Int32) (h : pH) : pR :=
  let y2_1 := s1 ||| s0
  r4 x1 y2_1 (x3 + px_c 1) h
noncomputable def hs_unsaidOf_4 : Nat → Int32 → Int32 → Int32 → pH → pR
  | 0, _, _, _, _ => none
  | n + 1, x1, x2, x3, h =>
    if (h 3 11) ≤ x3 then
      some (x2, h)
    else
      px_bind (hs_isUnsaidOf x1 x3 h) fun z1 h2 =>
      if z1 = 0 then
        hs_unsaidOf_29 (hs_unsaidOf_4 n) x1 x3 (px_c 0) x2 h2
      else
        hs_unsaidOf_29 (hs_unsaidOf_4 n) x1 x3 ((px_c 1) <<< (x3 &&& 31)) x2 h2
noncomputable def hs_unsaidOf (x1 : Int32) (h : pH) : pR :=
  hs_unsaidOf_4 px_F x1 (px_c 0) (px_c 0) h
def hs_unsaidOf_code : pCode := [(0, .iconst 0, 1), (1, .istore_n 2, 1), (2, .iconst 0, 1), (3, .istore_n 3, 1), (4, .iload_n 3, 1), (5, .aload_n 0, 1), (6, .getfield 54, 3), (9, .if_icmp .ge (28), 3), (12, .iload_n 2, 1), (13, .aload_n 0, 1), (14, .iload_n 1, 1), (15, .iload_n 3, 1), (16, .invokevirtual 128, 3), (19, .ifCond .eq (9), 3), (22, .iconst 1, 1), (23, .iload_n 3, 1), (24, .ishl, 1), (25, .goto (4), 3), (28, .iconst 0, 1), (29, .ior, 1), (30, .istore_n 2, 1), (31, .iinc 3 (1), 3), (34, .goto (-30), 3), (37, .iload_n 2, 1), (38, .ireturn, 1)]
set_option maxRecDepth 200000 in
theorem hs_unsaidOf_code_ok : px_code prog_5_method_14_code hs_unsaidOf_code = true := by decide +kernel
noncomputable def hs_unsaidOf_orc : pC := px_orc [(31, fun a h => match a with
    | [.inr (.inl 3), .inl v1, .inl v2] => hs_isUnsaidOf v1 v2 h
    | _ => none)]
theorem hs_unsaidOf_orc_ok {d : Nat} : px_Or (d + 2) (hs_unsaidOf_orc) := px_orc_ok (by
  refine px_o1 (fun a h q e => by
    dsimp only at e
    split at e
    · exact hs_isUnsaidOf_ok (d := d + 0) e
    · cases e) ?_
  exact px_o0)
set_option maxRecDepth 200000 in
theorem hs_unsaidOf_29_ok {d : Nat} {r4 : Int32 → Int32 → Int32 → pH → pR} (hr4 : ∀ (x1 : Int32) (x2 : Int32) (x3 : Int32) (h : pH) (q : Int32 × pH), r4 x1 x2 x3 h = some q → px_G (d + 2 + 1) (pX_RX3, prog_5_method_14_code, 4, (some .int)) 4 [some (.inr (.inl 3)), some (.inl x1), some (.inl x2), some (.inl x3)] [] h q) : ∀ (x1 : Int32) (x3 : Int32) (s0 : Int32) (s1 : Int32) (h : pH) (q : Int32 × pH), hs_unsaidOf_29 r4 x1 x3 s0 s1 h = some q → px_G (d + 2 + 1) (pX_RX3, prog_5_method_14_code, 4, (some .int)) 29 [some (.inr (.inl 3)), some (.inl x1), none, some (.inl x3)] [.inl s0, .inl s1] h q := by
  intro x1 x3 s0 s1 h q e
  exact px_blk_ok (d := d + 2) (M := (pX_RX3, prog_5_method_14_code, 4, (some .int))) (C := hs_unsaidOf_orc) (code := hs_unsaidOf_code) (ld := [4]) (kl := [(4, fun ls st h => px_if (px_fit [13, 1, 1, 1] ls && px_fits [] st) (r4 (px_gi ls 1) (px_gi ls 2) (px_gi ls 3) h))]) (hs_unsaidOf_orc_ok) pX_ok_RX3 hs_unsaidOf_code_ok (px_k1 (px_ko (ts := [13, 1, 1, 1]) (ss := []) fun ls st h q e => hr4 _ _ _ _ _ e) px_k0) 30 29 _ _ h q e
set_option maxRecDepth 200000 in
theorem hs_unsaidOf_4_ok {d : Nat} : ∀ (n : Nat) (x1 : Int32) (x2 : Int32) (x3 : Int32) (h : pH) (q : Int32 × pH), hs_unsaidOf_4 n x1 x2 x3 h = some q → px_G (d + 2 + 1) (pX_RX3, prog_5_method_14_code, 4, (some .int)) 4 [some (.inr (.inl 3)), some (.inl x1), some (.inl x2), some (.inl x3)] [] h q := by
  intro n
  induction n with
  | zero =>
    intro x1 x2 x3 h q e
    cases e
  | succ n ih =>
    intro x1 x2 x3 h q e
    exact px_blk_ok (d := d + 2) (M := (pX_RX3, prog_5_method_14_code, 4, (some .int))) (C := hs_unsaidOf_orc) (code := hs_unsaidOf_code) (ld := [29]) (kl := [(29, fun ls st h => px_if (px_fit [13, 1, 0, 1] ls && px_fits [1, 1] st) (hs_unsaidOf_29 (hs_unsaidOf_4 n) (px_gi ls 1) (px_gi ls 3) (px_si st 0) (px_si st 1) h))]) (hs_unsaidOf_orc_ok) pX_ok_RX3 hs_unsaidOf_code_ok (px_k1 (px_ko (ts := [13, 1, 0, 1]) (ss := [1, 1]) fun ls st h q e => hs_unsaidOf_29_ok ih _ _ _ _ _ _ e) px_k0) 30 4 _ _ h q e
set_option maxRecDepth 200000 in
theorem hs_unsaidOf_ok {d : Nat} {x1 : Int32} {h : pH} {q : Int32 × pH} (e : hs_unsaidOf x1 h = some q) : px_Con (d + 3) 32 [.inr (.inl 3), .inl x1] h q :=
  px_con (X := pX_RX3) (b := prog_5_method_14_code) (nL := 4) (rt := (some .int)) rfl rfl (Nat.le_of_ble_eq_true rfl) rfl (px_blk_ok (d := d + 2) (M := (pX_RX3, prog_5_method_14_code, 4, (some .int))) (C := hs_unsaidOf_orc) (code := hs_unsaidOf_code) (ld := [4]) (kl := [(4, fun ls st h => px_if (px_fit [13, 1, 1, 1] ls && px_fits [] st) (hs_unsaidOf_4 px_F (px_gi ls 1) (px_gi ls 2) (px_gi ls 3) h))]) (hs_unsaidOf_orc_ok) pX_ok_RX3 hs_unsaidOf_code_ok (px_k1 (px_ko (ts := [13, 1, 1, 1]) (ss := []) fun ls st h q e => hs_unsaidOf_4_ok _ _ _ _ _ _ e) px_k0) 30 0 _ _ _ q e)
/-! WordsUnsaid$House.saidThings()I -/
noncomputable def hs_saidThings_4 : Nat → Int32 → Int32 → pH → pR
  | 0, _, _, _ => none
  | n + 1, x1, x2, h =>
    if (h 3 11) ≤ x2 then
      some (x1, h)
    else
      px_bind (wu_at 12 x2 h) fun z1 h2 =>
      let y1_3 := x1 ||| (z1 <<< (x2 &&& 31))
      hs_saidThings_4 n y1_3 (x2 + px_c 1) h2
noncomputable def hs_saidThings (h : pH) : pR :=
  hs_saidThings_4 px_F (px_c 0) (px_c 0) h
def hs_saidThings_code : pCode := [(0, .iconst 0, 1), (1, .istore_n 1, 1), (2, .iconst 0, 1), (3, .istore_n 2, 1), (4, .iload_n 2, 1), (5, .aload_n 0, 1), (6, .getfield 54, 3), (9, .if_icmp .ge (22), 3), (12, .iload_n 1, 1), (13, .aload_n 0, 1), (14, .getfield 36, 3), (17, .iload_n 2, 1), (18, .invokestatic 111, 3), (21, .iload_n 2, 1), (22, .ishl, 1), (23, .ior, 1), (24, .istore_n 1, 1), (25, .iinc 2 (1), 3), (28, .goto (-24), 3), (31, .iload_n 1, 1), (32, .ireturn, 1)]
set_option maxRecDepth 200000 in
theorem hs_saidThings_code_ok : px_code prog_5_method_15_code hs_saidThings_code = true := by decide +kernel
noncomputable def hs_saidThings_orc : pC := px_orc [(158, fun a h => match a with
    | [.inr (.inl v0), .inl v1] => wu_at v0 v1 h
    | _ => none)]
theorem hs_saidThings_orc_ok {d : Nat} : px_Or (d + 1) (hs_saidThings_orc) := px_orc_ok (by
  refine px_o1 (fun a h q e => by
    dsimp only at e
    split at e
    · exact wu_at_ok (d := d + 0) e
    · cases e) ?_
  exact px_o0)
set_option maxRecDepth 200000 in
theorem hs_saidThings_4_ok {d : Nat} : ∀ (n : Nat) (x1 : Int32) (x2 : Int32) (h : pH) (q : Int32 × pH), hs_saidThings_4 n x1 x2 h = some q → px_G (d + 1 + 1) (pX_RX3, prog_5_method_15_code, 3, (some .int)) 4 [some (.inr (.inl 3)), some (.inl x1), some (.inl x2)] [] h q := by
  intro n
  induction n with
  | zero =>
    intro x1 x2 h q e
    cases e
  | succ n ih =>
    intro x1 x2 h q e
    exact px_blk_ok (d := d + 1) (M := (pX_RX3, prog_5_method_15_code, 3, (some .int))) (C := hs_saidThings_orc) (code := hs_saidThings_code) (ld := [4]) (kl := [(4, fun ls st h => px_if (px_fit [13, 1, 1] ls && px_fits [] st) (hs_saidThings_4 n (px_gi ls 1) (px_gi ls 2) h))]) (hs_saidThings_orc_ok) pX_ok_RX3 hs_saidThings_code_ok (px_k1 (px_ko (ts := [13, 1, 1]) (ss := []) fun ls st h q e => ih _ _ _ _ e) px_k0) 26 4 _ _ h q e
set_option maxRecDepth 200000 in
theorem hs_saidThings_ok {d : Nat} {h : pH} {q : Int32 × pH} (e : hs_saidThings h = some q) : px_Con (d + 2) 33 [.inr (.inl 3)] h q :=
  px_con (X := pX_RX3) (b := prog_5_method_15_code) (nL := 3) (rt := (some .int)) rfl rfl (Nat.le_of_ble_eq_true rfl) rfl (px_blk_ok (d := d + 1) (M := (pX_RX3, prog_5_method_15_code, 3, (some .int))) (C := hs_saidThings_orc) (code := hs_saidThings_code) (ld := [4]) (kl := [(4, fun ls st h => px_if (px_fit [13, 1, 1] ls && px_fits [] st) (hs_saidThings_4 px_F (px_gi ls 1) (px_gi ls 2) h))]) (hs_saidThings_orc_ok) pX_ok_RX3 hs_saidThings_code_ok (px_k1 (px_ko (ts := [13, 1, 1]) (ss := []) fun ls st h q e => hs_saidThings_4_ok _ _ _ _ _ e) px_k0) 26 0 _ _ _ q e)
/-! WordsUnsaid$House.knownBy(I)I -/
noncomputable def hs_knownBy_35 (r4 : Int32 → Int32 → Int32 → pH → pR) (x1 : Int32) (x3 : Int32) (s0 : Int32) (s1 : Int32) (h : pH) : pR :=
  let y2_1 := s1 ||| s0
  r4 x1 y2_1 (x3 + px_c 1) h
noncomputable def hs_knownBy_4 : Nat → Int32 → Int32 → Int32 → pH → pR
  | 0, _, _, _, _ => none
  | n + 1, x1, x2, x3, h =>
    if (h 3 11) ≤ x3 then
      some (x2, h)
    else
      px_bind (wu_at 13 x3 h) fun z1 h2 =>
      px_bind (wu_has z1 x1 h2) fun z3 h4 =>
      if z3 = 0 then
        hs_knownBy_35 (hs_knownBy_4 n) x1 x3 (px_c 0) x2 h4
      else
        hs_knownBy_35 (hs_knownBy_4 n) x1 x3 ((px_c 1) <<< (x3 &&& 31)) x2 h4
noncomputable def hs_knownBy (x1 : Int32) (h : pH) : pR :=
  hs_knownBy_4 px_F x1 (px_c 0) (px_c 0) h
def hs_knownBy_code : pCode := [(0, .iconst 0, 1), (1, .istore_n 2, 1), (2, .iconst 0, 1), (3, .istore_n 3, 1), (4, .iload_n 3, 1), (5, .aload_n 0, 1), (6, .getfield 54, 3), (9, .if_icmp .ge (34), 3), (12, .iload_n 2, 1), (13, .aload_n 0, 1), (14, .getfield 39, 3), (17, .iload_n 3, 1), (18, .invokestatic 111, 3), (21, .iload_n 1, 1), (22, .invokestatic 121, 3), (25, .ifCond .eq (9), 3), (28, .iconst 1, 1), (29, .iload_n 3, 1), (30, .ishl, 1), (31, .goto (4), 3), (34, .iconst 0, 1), (35, .ior, 1), (36, .istore_n 2, 1), (37, .iinc 3 (1), 3), (40, .goto (-36), 3), (43, .iload_n 2, 1), (44, .ireturn, 1)]
set_option maxRecDepth 200000 in
theorem hs_knownBy_code_ok : px_code prog_5_method_16_code hs_knownBy_code = true := by decide +kernel
noncomputable def hs_knownBy_orc : pC := px_orc [(158, fun a h => match a with
    | [.inr (.inl v0), .inl v1] => wu_at v0 v1 h
    | _ => none), (160, fun a h => match a with
    | [.inl v0, .inl v1] => wu_has v0 v1 h
    | _ => none)]
theorem hs_knownBy_orc_ok {d : Nat} : px_Or (d + 1) (hs_knownBy_orc) := px_orc_ok (by
  refine px_o1 (fun a h q e => by
    dsimp only at e
    split at e
    · exact wu_at_ok (d := d + 0) e
    · cases e) ?_
  refine px_o1 (fun a h q e => by
    dsimp only at e
    split at e
    · exact wu_has_ok (d := d + 0) e
    · cases e) ?_
  exact px_o0)
set_option maxRecDepth 200000 in
theorem hs_knownBy_35_ok {d : Nat} {r4 : Int32 → Int32 → Int32 → pH → pR} (hr4 : ∀ (x1 : Int32) (x2 : Int32) (x3 : Int32) (h : pH) (q : Int32 × pH), r4 x1 x2 x3 h = some q → px_G (d + 1 + 1) (pX_RX3, prog_5_method_16_code, 4, (some .int)) 4 [some (.inr (.inl 3)), some (.inl x1), some (.inl x2), some (.inl x3)] [] h q) : ∀ (x1 : Int32) (x3 : Int32) (s0 : Int32) (s1 : Int32) (h : pH) (q : Int32 × pH), hs_knownBy_35 r4 x1 x3 s0 s1 h = some q → px_G (d + 1 + 1) (pX_RX3, prog_5_method_16_code, 4, (some .int)) 35 [some (.inr (.inl 3)), some (.inl x1), none, some (.inl x3)] [.inl s0, .inl s1] h q := by
  intro x1 x3 s0 s1 h q e
  exact px_blk_ok (d := d + 1) (M := (pX_RX3, prog_5_method_16_code, 4, (some .int))) (C := hs_knownBy_orc) (code := hs_knownBy_code) (ld := [4]) (kl := [(4, fun ls st h => px_if (px_fit [13, 1, 1, 1] ls && px_fits [] st) (r4 (px_gi ls 1) (px_gi ls 2) (px_gi ls 3) h))]) (hs_knownBy_orc_ok) pX_ok_RX3 hs_knownBy_code_ok (px_k1 (px_ko (ts := [13, 1, 1, 1]) (ss := []) fun ls st h q e => hr4 _ _ _ _ _ e) px_k0) 32 35 _ _ h q e
set_option maxRecDepth 200000 in
theorem hs_knownBy_4_ok {d : Nat} : ∀ (n : Nat) (x1 : Int32) (x2 : Int32) (x3 : Int32) (h : pH) (q : Int32 × pH), hs_knownBy_4 n x1 x2 x3 h = some q → px_G (d + 1 + 1) (pX_RX3, prog_5_method_16_code, 4, (some .int)) 4 [some (.inr (.inl 3)), some (.inl x1), some (.inl x2), some (.inl x3)] [] h q := by
  intro n
  induction n with
  | zero =>
    intro x1 x2 x3 h q e
    cases e
  | succ n ih =>
    intro x1 x2 x3 h q e
    exact px_blk_ok (d := d + 1) (M := (pX_RX3, prog_5_method_16_code, 4, (some .int))) (C := hs_knownBy_orc) (code := hs_knownBy_code) (ld := [35]) (kl := [(35, fun ls st h => px_if (px_fit [13, 1, 0, 1] ls && px_fits [1, 1] st) (hs_knownBy_35 (hs_knownBy_4 n) (px_gi ls 1) (px_gi ls 3) (px_si st 0) (px_si st 1) h))]) (hs_knownBy_orc_ok) pX_ok_RX3 hs_knownBy_code_ok (px_k1 (px_ko (ts := [13, 1, 0, 1]) (ss := [1, 1]) fun ls st h q e => hs_knownBy_35_ok ih _ _ _ _ _ _ e) px_k0) 32 4 _ _ h q e
set_option maxRecDepth 200000 in
theorem hs_knownBy_ok {d : Nat} {x1 : Int32} {h : pH} {q : Int32 × pH} (e : hs_knownBy x1 h = some q) : px_Con (d + 2) 34 [.inr (.inl 3), .inl x1] h q :=
  px_con (X := pX_RX3) (b := prog_5_method_16_code) (nL := 4) (rt := (some .int)) rfl rfl (Nat.le_of_ble_eq_true rfl) rfl (px_blk_ok (d := d + 1) (M := (pX_RX3, prog_5_method_16_code, 4, (some .int))) (C := hs_knownBy_orc) (code := hs_knownBy_code) (ld := [4]) (kl := [(4, fun ls st h => px_if (px_fit [13, 1, 1, 1] ls && px_fits [] st) (hs_knownBy_4 px_F (px_gi ls 1) (px_gi ls 2) (px_gi ls 3) h))]) (hs_knownBy_orc_ok) pX_ok_RX3 hs_knownBy_code_ok (px_k1 (px_ko (ts := [13, 1, 1, 1]) (ss := []) fun ls st h q e => hs_knownBy_4_ok _ _ _ _ _ _ e) px_k0) 32 0 _ _ _ q e)
/-! WordsUnsaid$House.knownAt(I)I -/
noncomputable def hs_knownAt_43 (r11 : Int32 → Int32 → Int32 → pH → pR) (x2 : Int32) (x4 : Int32) (s0 : Int32) (s1 : Int32) (h : pH) : pR :=
  let y3_1 := s1 ||| s0
  r11 x2 y3_1 (x4 + px_c 1) h
noncomputable def hs_knownAt_11 : Nat → Int32 → Int32 → Int32 → pH → pR
  | 0, _, _, _, _ => none
  | n + 1, x2, x3, x4, h =>
    if (h 3 11) ≤ x4 then
      some (x3, h)
    else
      px_bind (wu_at 13 x4 h) fun z1 h2 =>
      if (z1 &&& x2) = 0 then
        hs_knownAt_43 (hs_knownAt_11 n) x2 x4 (px_c 0) x3 h2
      else
        hs_knownAt_43 (hs_knownAt_11 n) x2 x4 ((px_c 1) <<< (x4 &&& 31)) x3 h2
noncomputable def hs_knownAt (x1 : Int32) (h : pH) : pR :=
  px_bind (hs_peopleAt x1 h) fun z1 h2 =>
  hs_knownAt_11 px_F z1 (px_c 0) (px_c 0) h2
def hs_knownAt_code : pCode := [(0, .aload_n 0, 1), (1, .iload_n 1, 1), (2, .invokevirtual 115, 3), (5, .istore_n 2, 1), (6, .iconst 0, 1), (7, .istore_n 3, 1), (8, .iconst 0, 1), (9, .istore 4, 2), (11, .iload 4, 2), (13, .aload_n 0, 1), (14, .getfield 54, 3), (17, .if_icmp .ge (34), 3), (20, .iload_n 3, 1), (21, .aload_n 0, 1), (22, .getfield 39, 3), (25, .iload 4, 2), (27, .invokestatic 111, 3), (30, .iload_n 2, 1), (31, .iand, 1), (32, .ifCond .eq (10), 3), (35, .iconst 1, 1), (36, .iload 4, 2), (38, .ishl, 1), (39, .goto (4), 3), (42, .iconst 0, 1), (43, .ior, 1), (44, .istore_n 3, 1), (45, .iinc 4 (1), 3), (48, .goto (-37), 3), (51, .iload_n 3, 1), (52, .ireturn, 1)]
set_option maxRecDepth 200000 in
theorem hs_knownAt_code_ok : px_code prog_5_method_17_code hs_knownAt_code = true := by decide +kernel
noncomputable def hs_knownAt_orc : pC := px_orc [(158, fun a h => match a with
    | [.inr (.inl v0), .inl v1] => wu_at v0 v1 h
    | _ => none), (27, fun a h => match a with
    | [.inr (.inl 3), .inl v1] => hs_peopleAt v1 h
    | _ => none)]
theorem hs_knownAt_orc_ok {d : Nat} : px_Or (d + 2) (hs_knownAt_orc) := px_orc_ok (by
  refine px_o1 (fun a h q e => by
    dsimp only at e
    split at e
    · exact wu_at_ok (d := d + 1) e
    · cases e) ?_
  refine px_o1 (fun a h q e => by
    dsimp only at e
    split at e
    · exact hs_peopleAt_ok (d := d + 0) e
    · cases e) ?_
  exact px_o0)
set_option maxRecDepth 200000 in
theorem hs_knownAt_43_ok {d : Nat} {r11 : Int32 → Int32 → Int32 → pH → pR} (hr11 : ∀ (x2 : Int32) (x3 : Int32) (x4 : Int32) (h : pH) (q : Int32 × pH), r11 x2 x3 x4 h = some q → px_G (d + 2 + 1) (pX_RX3, prog_5_method_17_code, 5, (some .int)) 11 [some (.inr (.inl 3)), none, some (.inl x2), some (.inl x3), some (.inl x4)] [] h q) : ∀ (x2 : Int32) (x4 : Int32) (s0 : Int32) (s1 : Int32) (h : pH) (q : Int32 × pH), hs_knownAt_43 r11 x2 x4 s0 s1 h = some q → px_G (d + 2 + 1) (pX_RX3, prog_5_method_17_code, 5, (some .int)) 43 [some (.inr (.inl 3)), none, some (.inl x2), none, some (.inl x4)] [.inl s0, .inl s1] h q := by
  intro x2 x4 s0 s1 h q e
  exact px_blk_ok (d := d + 2) (M := (pX_RX3, prog_5_method_17_code, 5, (some .int))) (C := hs_knownAt_orc) (code := hs_knownAt_code) (ld := [11]) (kl := [(11, fun ls st h => px_if (px_fit [13, 0, 1, 1, 1] ls && px_fits [] st) (r11 (px_gi ls 2) (px_gi ls 3) (px_gi ls 4) h))]) (hs_knownAt_orc_ok) pX_ok_RX3 hs_knownAt_code_ok (px_k1 (px_ko (ts := [13, 0, 1, 1, 1]) (ss := []) fun ls st h q e => hr11 _ _ _ _ _ e) px_k0) 36 43 _ _ h q e
set_option maxRecDepth 200000 in
theorem hs_knownAt_11_ok {d : Nat} : ∀ (n : Nat) (x2 : Int32) (x3 : Int32) (x4 : Int32) (h : pH) (q : Int32 × pH), hs_knownAt_11 n x2 x3 x4 h = some q → px_G (d + 2 + 1) (pX_RX3, prog_5_method_17_code, 5, (some .int)) 11 [some (.inr (.inl 3)), none, some (.inl x2), some (.inl x3), some (.inl x4)] [] h q := by
  intro n
  induction n with
  | zero =>
    intro x2 x3 x4 h q e
    cases e
  | succ n ih =>
    intro x2 x3 x4 h q e
    exact px_blk_ok (d := d + 2) (M := (pX_RX3, prog_5_method_17_code, 5, (some .int))) (C := hs_knownAt_orc) (code := hs_knownAt_code) (ld := [43]) (kl := [(43, fun ls st h => px_if (px_fit [13, 0, 1, 0, 1] ls && px_fits [1, 1] st) (hs_knownAt_43 (hs_knownAt_11 n) (px_gi ls 2) (px_gi ls 4) (px_si st 0) (px_si st 1) h))]) (hs_knownAt_orc_ok) pX_ok_RX3 hs_knownAt_code_ok (px_k1 (px_ko (ts := [13, 0, 1, 0, 1]) (ss := [1, 1]) fun ls st h q e => hs_knownAt_43_ok ih _ _ _ _ _ _ e) px_k0) 36 11 _ _ h q e
set_option maxRecDepth 200000 in
theorem hs_knownAt_ok {d : Nat} {x1 : Int32} {h : pH} {q : Int32 × pH} (e : hs_knownAt x1 h = some q) : px_Con (d + 3) 35 [.inr (.inl 3), .inl x1] h q :=
  px_con (X := pX_RX3) (b := prog_5_method_17_code) (nL := 5) (rt := (some .int)) rfl rfl (Nat.le_of_ble_eq_true rfl) rfl (px_blk_ok (d := d + 2) (M := (pX_RX3, prog_5_method_17_code, 5, (some .int))) (C := hs_knownAt_orc) (code := hs_knownAt_code) (ld := [11]) (kl := [(11, fun ls st h => px_if (px_fit [13, 0, 1, 1, 1] ls && px_fits [] st) (hs_knownAt_11 px_F (px_gi ls 2) (px_gi ls 3) (px_gi ls 4) h))]) (hs_knownAt_orc_ok) pX_ok_RX3 hs_knownAt_code_ok (px_k1 (px_ko (ts := [13, 0, 1, 1, 1]) (ss := []) fun ls st h q e => hs_knownAt_11_ok _ _ _ _ _ _ e) px_k0) 36 0 _ _ _ q e)
/-! WordsUnsaid$House.wordsLeft(I)I -/
noncomputable def hs_wordsLeft_33 (r4 : Int32 → Int32 → Int32 → pH → pR) (x1 : Int32) (x3 : Int32) (s0 : Int32) (s1 : Int32) (h : pH) : pR :=
  let y2_1 := s1 + s0
  r4 x1 y2_1 (x3 + px_c 1) h
noncomputable def hs_wordsLeft_4 : Nat → Int32 → Int32 → Int32 → pH → pR
  | 0, _, _, _, _ => none
  | n + 1, x1, x2, x3, h =>
    if (h 3 11) ≤ x3 then
      some (x2, h)
    else
      px_bind (wu_has x1 x3 h) fun z1 h2 =>
      if z1 = 0 then
        hs_wordsLeft_33 (hs_wordsLeft_4 n) x1 x3 (px_c 0) x2 h2
      else
        px_bind (wu_at 8 x3 h2) fun z3 h4 =>
        hs_wordsLeft_33 (hs_wordsLeft_4 n) x1 x3 z3 x2 h4
noncomputable def hs_wordsLeft (x1 : Int32) (h : pH) : pR :=
  hs_wordsLeft_4 px_F x1 (px_c 0) (px_c 0) h
def hs_wordsLeft_code : pCode := [(0, .iconst 0, 1), (1, .istore_n 2, 1), (2, .iconst 0, 1), (3, .istore_n 3, 1), (4, .iload_n 3, 1), (5, .aload_n 0, 1), (6, .getfield 54, 3), (9, .if_icmp .ge (32), 3), (12, .iload_n 2, 1), (13, .iload_n 1, 1), (14, .iload_n 3, 1), (15, .invokestatic 121, 3), (18, .ifCond .eq (14), 3), (21, .aload_n 0, 1), (22, .getfield 24, 3), (25, .iload_n 3, 1), (26, .invokestatic 111, 3), (29, .goto (4), 3), (32, .iconst 0, 1), (33, .iadd, 1), (34, .istore_n 2, 1), (35, .iinc 3 (1), 3), (38, .goto (-34), 3), (41, .iload_n 2, 1), (42, .ireturn, 1)]
set_option maxRecDepth 200000 in
theorem hs_wordsLeft_code_ok : px_code prog_5_method_18_code hs_wordsLeft_code = true := by decide +kernel
noncomputable def hs_wordsLeft_orc : pC := px_orc [(160, fun a h => match a with
    | [.inl v0, .inl v1] => wu_has v0 v1 h
    | _ => none), (158, fun a h => match a with
    | [.inr (.inl v0), .inl v1] => wu_at v0 v1 h
    | _ => none)]
theorem hs_wordsLeft_orc_ok {d : Nat} : px_Or (d + 1) (hs_wordsLeft_orc) := px_orc_ok (by
  refine px_o1 (fun a h q e => by
    dsimp only at e
    split at e
    · exact wu_has_ok (d := d + 0) e
    · cases e) ?_
  refine px_o1 (fun a h q e => by
    dsimp only at e
    split at e
    · exact wu_at_ok (d := d + 0) e
    · cases e) ?_
  exact px_o0)
set_option maxRecDepth 200000 in
theorem hs_wordsLeft_33_ok {d : Nat} {r4 : Int32 → Int32 → Int32 → pH → pR} (hr4 : ∀ (x1 : Int32) (x2 : Int32) (x3 : Int32) (h : pH) (q : Int32 × pH), r4 x1 x2 x3 h = some q → px_G (d + 1 + 1) (pX_RX3, prog_5_method_18_code, 4, (some .int)) 4 [some (.inr (.inl 3)), some (.inl x1), some (.inl x2), some (.inl x3)] [] h q) : ∀ (x1 : Int32) (x3 : Int32) (s0 : Int32) (s1 : Int32) (h : pH) (q : Int32 × pH), hs_wordsLeft_33 r4 x1 x3 s0 s1 h = some q → px_G (d + 1 + 1) (pX_RX3, prog_5_method_18_code, 4, (some .int)) 33 [some (.inr (.inl 3)), some (.inl x1), none, some (.inl x3)] [.inl s0, .inl s1] h q := by
  intro x1 x3 s0 s1 h q e
  exact px_blk_ok (d := d + 1) (M := (pX_RX3, prog_5_method_18_code, 4, (some .int))) (C := hs_wordsLeft_orc) (code := hs_wordsLeft_code) (ld := [4]) (kl := [(4, fun ls st h => px_if (px_fit [13, 1, 1, 1] ls && px_fits [] st) (r4 (px_gi ls 1) (px_gi ls 2) (px_gi ls 3) h))]) (hs_wordsLeft_orc_ok) pX_ok_RX3 hs_wordsLeft_code_ok (px_k1 (px_ko (ts := [13, 1, 1, 1]) (ss := []) fun ls st h q e => hr4 _ _ _ _ _ e) px_k0) 30 33 _ _ h q e
set_option maxRecDepth 200000 in
theorem hs_wordsLeft_4_ok {d : Nat} : ∀ (n : Nat) (x1 : Int32) (x2 : Int32) (x3 : Int32) (h : pH) (q : Int32 × pH), hs_wordsLeft_4 n x1 x2 x3 h = some q → px_G (d + 1 + 1) (pX_RX3, prog_5_method_18_code, 4, (some .int)) 4 [some (.inr (.inl 3)), some (.inl x1), some (.inl x2), some (.inl x3)] [] h q := by
  intro n
  induction n with
  | zero =>
    intro x1 x2 x3 h q e
    cases e
  | succ n ih =>
    intro x1 x2 x3 h q e
    exact px_blk_ok (d := d + 1) (M := (pX_RX3, prog_5_method_18_code, 4, (some .int))) (C := hs_wordsLeft_orc) (code := hs_wordsLeft_code) (ld := [33]) (kl := [(33, fun ls st h => px_if (px_fit [13, 1, 0, 1] ls && px_fits [1, 1] st) (hs_wordsLeft_33 (hs_wordsLeft_4 n) (px_gi ls 1) (px_gi ls 3) (px_si st 0) (px_si st 1) h))]) (hs_wordsLeft_orc_ok) pX_ok_RX3 hs_wordsLeft_code_ok (px_k1 (px_ko (ts := [13, 1, 0, 1]) (ss := [1, 1]) fun ls st h q e => hs_wordsLeft_33_ok ih _ _ _ _ _ _ e) px_k0) 30 4 _ _ h q e
set_option maxRecDepth 200000 in
theorem hs_wordsLeft_ok {d : Nat} {x1 : Int32} {h : pH} {q : Int32 × pH} (e : hs_wordsLeft x1 h = some q) : px_Con (d + 2) 36 [.inr (.inl 3), .inl x1] h q :=
  px_con (X := pX_RX3) (b := prog_5_method_18_code) (nL := 4) (rt := (some .int)) rfl rfl (Nat.le_of_ble_eq_true rfl) rfl (px_blk_ok (d := d + 1) (M := (pX_RX3, prog_5_method_18_code, 4, (some .int))) (C := hs_wordsLeft_orc) (code := hs_wordsLeft_code) (ld := [4]) (kl := [(4, fun ls st h => px_if (px_fit [13, 1, 1, 1] ls && px_fits [] st) (hs_wordsLeft_4 px_F (px_gi ls 1) (px_gi ls 2) (px_gi ls 3) h))]) (hs_wordsLeft_orc_ok) pX_ok_RX3 hs_wordsLeft_code_ok (px_k1 (px_ko (ts := [13, 1, 1, 1]) (ss := []) fun ls st h q e => hs_wordsLeft_4_ok _ _ _ _ _ _ e) px_k0) 30 0 _ _ _ q e)
/-! WordsUnsaid$House.knowersOfThingsAbout(I)I -/
noncomputable def hs_knowersOfThingsAbout_59 (r4 : Int32 → Int32 → Int32 → pH → pR) (x1 : Int32) (x2 : Int32) (x3 : Int32) (h : pH) : pR :=
  r4 x1 x2 (x3 + px_c 1) h
noncomputable def hs_knowersOfThingsAbout_4 : Nat → Int32 → Int32 → Int32 → pH → pR
  | 0, _, _, _, _ => none
  | n + 1, x1, x2, x3, h =>
    if (h 3 11) ≤ x3 then
      some (x2, h)
    else
      px_bind (wu_at 11 x3 h) fun z1 h2 =>
      if z1 = x1 then
        px_bind (wu_at 13 x3 h2) fun z3 h4 =>
        px_bind (wu_at 10 x3 h4) fun z5 h6 =>
        let y4_7 := z3 &&& (((px_c 1) <<< (z5 &&& 31)) ^^^ (px_c (-1)))
        px_bind (jn_bitCount y4_7 h6) fun z8 h9 =>
        let y2_10 := (px_max (px_c 0) x2) + z8
        hs_knowersOfThingsAbout_59 (hs_knowersOfThingsAbout_4 n) x1 y2_10 x3 h9
      else
        hs_knowersOfThingsAbout_59 (hs_knowersOfThingsAbout_4 n) x1 x2 x3 h2
noncomputable def hs_knowersOfThingsAbout (x1 : Int32) (h : pH) : pR :=
  hs_knowersOfThingsAbout_4 px_F x1 (px_c (-1)) (px_c 0) h
def hs_knowersOfThingsAbout_code : pCode := [(0, .iconst (-1), 1), (1, .istore_n 2, 1), (2, .iconst 0, 1), (3, .istore_n 3, 1), (4, .iload_n 3, 1), (5, .aload_n 0, 1), (6, .getfield 54, 3), (9, .if_icmp .ge (56), 3), (12, .aload_n 0, 1), (13, .getfield 33, 3), (16, .iload_n 3, 1), (17, .invokestatic 111, 3), (20, .iload_n 1, 1), (21, .if_icmp .ne (38), 3), (24, .aload_n 0, 1), (25, .getfield 39, 3), (28, .iload_n 3, 1), (29, .invokestatic 111, 3), (32, .iconst 1, 1), (33, .aload_n 0, 1), (34, .getfield 30, 3), (37, .iload_n 3, 1), (38, .invokestatic 111, 3), (41, .ishl, 1), (42, .iconst (-1), 1), (43, .ixor, 1), (44, .iand, 1), (45, .istore 4, 2), (47, .iconst 0, 1), (48, .iload_n 2, 1), (49, .invokestatic 131, 3), (52, .iload 4, 2), (54, .invokestatic 136, 3), (57, .iadd, 1), (58, .istore_n 2, 1), (59, .iinc 3 (1), 3), (62, .goto (-58), 3), (65, .iload_n 2, 1), (66, .ireturn, 1)]
set_option maxRecDepth 200000 in
theorem hs_knowersOfThingsAbout_code_ok : px_code prog_5_method_19_code hs_knowersOfThingsAbout_code = true := by decide +kernel
noncomputable def hs_knowersOfThingsAbout_orc : pC := px_orc [(158, fun a h => match a with
    | [.inr (.inl v0), .inl v1] => wu_at v0 v1 h
    | _ => none), (279, fun a h => match a with
    | [.inl v0] => jn_bitCount v0 h
    | _ => none)]
theorem hs_knowersOfThingsAbout_orc_ok {d : Nat} : px_Or (d + 1) (hs_knowersOfThingsAbout_orc) := px_orc_ok (by
  refine px_o1 (fun a h q e => by
    dsimp only at e
    split at e
    · exact wu_at_ok (d := d + 0) e
    · cases e) ?_
  refine px_o1 (fun a h q e => by
    dsimp only at e
    split at e
    · exact jn_bitCount_ok (d := d + 0) e
    · cases e) ?_
  exact px_o0)
set_option maxRecDepth 200000 in
theorem hs_knowersOfThingsAbout_59_ok {d : Nat} {r4 : Int32 → Int32 → Int32 → pH → pR} (hr4 : ∀ (x1 : Int32) (x2 : Int32) (x3 : Int32) (h : pH) (q : Int32 × pH), r4 x1 x2 x3 h = some q → px_G (d + 1 + 1) (pX_RX3, prog_5_method_19_code, 5, (some .int)) 4 [some (.inr (.inl 3)), some (.inl x1), some (.inl x2), some (.inl x3), none] [] h q) : ∀ (x1 : Int32) (x2 : Int32) (x3 : Int32) (h : pH) (q : Int32 × pH), hs_knowersOfThingsAbout_59 r4 x1 x2 x3 h = some q → px_G (d + 1 + 1) (pX_RX3, prog_5_method_19_code, 5, (some .int)) 59 [some (.inr (.inl 3)), some (.inl x1), some (.inl x2), some (.inl x3), none] [] h q := by
  intro x1 x2 x3 h q e
  exact px_blk_ok (d := d + 1) (M := (pX_RX3, prog_5_method_19_code, 5, (some .int))) (C := hs_knowersOfThingsAbout_orc) (code := hs_knowersOfThingsAbout_code) (ld := [4]) (kl := [(4, fun ls st h => px_if (px_fit [13, 1, 1, 1, 0] ls && px_fits [] st) (r4 (px_gi ls 1) (px_gi ls 2) (px_gi ls 3) h))]) (hs_knowersOfThingsAbout_orc_ok) pX_ok_RX3 hs_knowersOfThingsAbout_code_ok (px_k1 (px_ko (ts := [13, 1, 1, 1, 0]) (ss := []) fun ls st h q e => hr4 _ _ _ _ _ e) px_k0) 44 59 _ _ h q e
set_option maxRecDepth 200000 in
theorem hs_knowersOfThingsAbout_4_ok {d : Nat} : ∀ (n : Nat) (x1 : Int32) (x2 : Int32) (x3 : Int32) (h : pH) (q : Int32 × pH), hs_knowersOfThingsAbout_4 n x1 x2 x3 h = some q → px_G (d + 1 + 1) (pX_RX3, prog_5_method_19_code, 5, (some .int)) 4 [some (.inr (.inl 3)), some (.inl x1), some (.inl x2), some (.inl x3), none] [] h q := by
  intro n
  induction n with
  | zero =>
    intro x1 x2 x3 h q e
    cases e
  | succ n ih =>
    intro x1 x2 x3 h q e
    exact px_blk_ok (d := d + 1) (M := (pX_RX3, prog_5_method_19_code, 5, (some .int))) (C := hs_knowersOfThingsAbout_orc) (code := hs_knowersOfThingsAbout_code) (ld := [59]) (kl := [(59, fun ls st h => px_if (px_fit [13, 1, 1, 1, 0] ls && px_fits [] st) (hs_knowersOfThingsAbout_59 (hs_knowersOfThingsAbout_4 n) (px_gi ls 1) (px_gi ls 2) (px_gi ls 3) h))]) (hs_knowersOfThingsAbout_orc_ok) pX_ok_RX3 hs_knowersOfThingsAbout_code_ok (px_k1 (px_ko (ts := [13, 1, 1, 1, 0]) (ss := []) fun ls st h q e => hs_knowersOfThingsAbout_59_ok ih _ _ _ _ _ e) px_k0) 44 4 _ _ h q e
set_option maxRecDepth 200000 in
theorem hs_knowersOfThingsAbout_ok {d : Nat} {x1 : Int32} {h : pH} {q : Int32 × pH} (e : hs_knowersOfThingsAbout x1 h = some q) : px_Con (d + 2) 37 [.inr (.inl 3), .inl x1] h q :=
  px_con (X := pX_RX3) (b := prog_5_method_19_code) (nL := 5) (rt := (some .int)) rfl rfl (Nat.le_of_ble_eq_true rfl) rfl (px_blk_ok (d := d + 1) (M := (pX_RX3, prog_5_method_19_code, 5, (some .int))) (C := hs_knowersOfThingsAbout_orc) (code := hs_knowersOfThingsAbout_code) (ld := [4]) (kl := [(4, fun ls st h => px_if (px_fit [13, 1, 1, 1, 0] ls && px_fits [] st) (hs_knowersOfThingsAbout_4 px_F (px_gi ls 1) (px_gi ls 2) (px_gi ls 3) h))]) (hs_knowersOfThingsAbout_orc_ok) pX_ok_RX3 hs_knowersOfThingsAbout_code_ok (px_k1 (px_ko (ts := [13, 1, 1, 1, 0]) (ss := []) fun ls st h q e => hs_knowersOfThingsAbout_4_ok _ _ _ _ _ _ e) px_k0) 44 0 _ _ _ q e)
/-! WordsUnsaid$House.owns(II)Z -/
noncomputable def hs_owns_33 (s0 : Int32) (h : pH) : pR :=
  px_bz s0 h
noncomputable def hs_owns_32 (h : pH) : pR :=
  hs_owns_33 (px_c 0) h
noncomputable def hs_owns (x1 : Int32) (x2 : Int32) (h : pH) : pR :=
  px_bind (hs_hasPerson x1 h) fun z1 h2 =>
  if z1 = 0 then
    hs_owns_32 h2
  else
    px_bind (hs_hasThing x2 h2) fun z3 h4 =>
    if z3 = 0 then
      hs_owns_32 h4
    else
      px_bind (wu_at 10 x2 h4) fun z5 h6 =>
      if z5 = x1 then
        hs_owns_33 (px_c 1) h6
      else
        hs_owns_32 h6
def hs_owns_code : pCode := [(0, .aload_n 0, 1), (1, .iload_n 1, 1), (2, .invokevirtual 141, 3), (5, .ifCond .eq (27), 3), (8, .aload_n 0, 1), (9, .iload_n 2, 1), (10, .invokevirtual 125, 3), (13, .ifCond .eq (19), 3), (16, .aload_n 0, 1), (17, .getfield 30, 3), (20, .iload_n 2, 1), (21, .invokestatic 111, 3), (24, .iload_n 1, 1), (25, .if_icmp .ne (7), 3), (28, .iconst 1, 1), (29, .goto (4), 3), (32, .iconst 0, 1), (33, .ireturn, 1)]
set_option maxRecDepth 200000 in
theorem hs_owns_code_ok : px_code prog_5_method_20_code hs_owns_code = true := by decide +kernel
noncomputable def hs_owns_orc : pC := px_orc [(25, fun a h => match a with
    | [.inr (.inl 3), .inl v1] => hs_hasPerson v1 h
    | _ => none), (26, fun a h => match a with
    | [.inr (.inl 3), .inl v1] => hs_hasThing v1 h
    | _ => none), (158, fun a h => match a with
    | [.inr (.inl v0), .inl v1] => wu_at v0 v1 h
    | _ => none)]
theorem hs_owns_orc_ok {d : Nat} : px_Or (d + 1) (hs_owns_orc) := px_orc_ok (by
  refine px_o1 (fun a h q e => by
    dsimp only at e
    split at e
    · exact hs_hasPerson_ok (d := d + 0) e
    · cases e) ?_
  refine px_o1 (fun a h q e => by
    dsimp only at e
    split at e
    · exact hs_hasThing_ok (d := d + 0) e
    · cases e) ?_
  refine px_o1 (fun a h q e => by
    dsimp only at e
    split at e
    · exact wu_at_ok (d := d + 0) e
    · cases e) ?_
  exact px_o0)
set_option maxRecDepth 200000 in
theorem hs_owns_33_ok {d : Nat} : ∀ (s0 : Int32) (h : pH) (q : Int32 × pH), hs_owns_33 s0 h = some q → px_G (d + 1 + 1) (pX_RX3, prog_5_method_20_code, 3, (some .boolean)) 33 [none, none, none] [.inl s0] h q := by
  intro s0 h q e
  exact px_blk_ok (d := d + 1) (M := (pX_RX3, prog_5_method_20_code, 3, (some .boolean))) (C := hs_owns_orc) (code := hs_owns_code) (ld := []) (kl := []) (hs_owns_orc_ok) pX_ok_RX3 hs_owns_code_ok (px_k0) 23 33 _ _ h q e
set_option maxRecDepth 200000 in
theorem hs_owns_32_ok {d : Nat} : ∀ (h : pH) (q : Int32 × pH), hs_owns_32 h = some q → px_G (d + 1 + 1) (pX_RX3, prog_5_method_20_code, 3, (some .boolean)) 32 [none, none, none] [] h q := by
  intro h q e
  exact px_blk_ok (d := d + 1) (M := (pX_RX3, prog_5_method_20_code, 3, (some .boolean))) (C := hs_owns_orc) (code := hs_owns_code) (ld := [33]) (kl := [(33, fun ls st h => px_if (px_fit [0, 0, 0] ls && px_fits [1] st) (hs_owns_33 (px_si st 0) h))]) (hs_owns_orc_ok) pX_ok_RX3 hs_owns_code_ok (px_k1 (px_ko (ts := [0, 0, 0]) (ss := [1]) fun ls st h q e => hs_owns_33_ok _ _ _ e) px_k0) 23 32 _ _ h q e
set_option maxRecDepth 200000 in
theorem hs_owns_ok {d : Nat} {x1 : Int32} {x2 : Int32} {h : pH} {q : Int32 × pH} (e : hs_owns x1 x2 h = some q) : px_Con (d + 2) 38 [.inr (.inl 3), .inl x1, .inl x2] h q :=
  px_con (X := pX_RX3) (b := prog_5_method_20_code) (nL := 3) (rt := (some .boolean)) rfl rfl (Nat.le_of_ble_eq_true rfl) rfl (px_blk_ok (d := d + 1) (M := (pX_RX3, prog_5_method_20_code, 3, (some .boolean))) (C := hs_owns_orc) (code := hs_owns_code) (ld := [32, 33]) (kl := [(32, fun ls st h => px_if (px_fit [0, 0, 0] ls && px_fits [] st) (hs_owns_32 h)), (33, fun ls st h => px_if (px_fit [0, 0, 0] ls && px_fits [1] st) (hs_owns_33 (px_si st 0) h))]) (hs_owns_orc_ok) pX_ok_RX3 hs_owns_code_ok (px_k1 (px_ko (ts := [0, 0, 0]) (ss := []) fun ls st h q e => hs_owns_32_ok _ _ e) (px_k1 (px_ko (ts := [0, 0, 0]) (ss := [1]) fun ls st h q e => hs_owns_33_ok _ _ _ e) px_k0)) 23 0 _ _ _ q e)
/-! WordsUnsaid$House.mayKeepBack(II)Z -/
noncomputable def hs_mayKeepBack_25 (s0 : Int32) (h : pH) : pR :=
  px_bz s0 h
noncomputable def hs_mayKeepBack_24 (h : pH) : pR :=
  hs_mayKeepBack_25 (px_c 0) h
noncomputable def hs_mayKeepBack (x1 : Int32) (x2 : Int32) (h : pH) : pR :=
  px_bind (hs_owns x1 x2 h) fun z1 h2 =>
  if z1 = 0 then
    hs_mayKeepBack_24 h2
  else
    px_bind (wu_at 12 x2 h2) fun z3 h4 =>
    if z3 = 0 then
      hs_mayKeepBack_25 (px_c 1) h4
    else
      hs_mayKeepBack_24 h4
def hs_mayKeepBack_code : pCode := [(0, .aload_n 0, 1), (1, .iload_n 1, 1), (2, .iload_n 2, 1), (3, .invokevirtual 144, 3), (6, .ifCond .eq (18), 3), (9, .aload_n 0, 1), (10, .getfield 36, 3), (13, .iload_n 2, 1), (14, .invokestatic 111, 3), (17, .ifCond .ne (7), 3), (20, .iconst 1, 1), (21, .goto (4), 3), (24, .iconst 0, 1), (25, .ireturn, 1)]
set_option maxRecDepth 200000 in
theorem hs_mayKeepBack_code_ok : px_code prog_5_method_21_code hs_mayKeepBack_code = true := by decide +kernel
noncomputable def hs_mayKeepBack_orc : pC := px_orc [(38, fun a h => match a with
    | [.inr (.inl 3), .inl v1, .inl v2] => hs_owns v1 v2 h
    | _ => none), (158, fun a h => match a with
    | [.inr (.inl v0), .inl v1] => wu_at v0 v1 h
    | _ => none)]
theorem hs_mayKeepBack_orc_ok {d : Nat} : px_Or (d + 2) (hs_mayKeepBack_orc) := px_orc_ok (by
  refine px_o1 (fun a h q e => by
    dsimp only at e
    split at e
    · exact hs_owns_ok (d := d + 0) e
    · cases e) ?_
  refine px_o1 (fun a h q e => by
    dsimp only at e
    split at e
    · exact wu_at_ok (d := d + 1) e
    · cases e) ?_
  exact px_o0)
set_option maxRecDepth 200000 in
theorem hs_mayKeepBack_25_ok {d : Nat} : ∀ (s0 : Int32) (h : pH) (q : Int32 × pH), hs_mayKeepBack_25 s0 h = some q → px_G (d + 2 + 1) (pX_RX3, prog_5_method_21_code, 3, (some .boolean)) 25 [none, none, none] [.inl s0] h q := by
  intro s0 h q e
  exact px_blk_ok (d := d + 2) (M := (pX_RX3, prog_5_method_21_code, 3, (some .boolean))) (C := hs_mayKeepBack_orc) (code := hs_mayKeepBack_code) (ld := []) (kl := []) (hs_mayKeepBack_orc_ok) pX_ok_RX3 hs_mayKeepBack_code_ok (px_k0) 19 25 _ _ h q e
set_option maxRecDepth 200000 in
theorem hs_mayKeepBack_24_ok {d : Nat} : ∀ (h : pH) (q : Int32 × pH), hs_mayKeepBack_24 h = some q → px_G (d + 2 + 1) (pX_RX3, prog_5_method_21_code, 3, (some .boolean)) 24 [none, none, none] [] h q := by
  intro h q e
  exact px_blk_ok (d := d + 2) (M := (pX_RX3, prog_5_method_21_code, 3, (some .boolean))) (C := hs_mayKeepBack_orc) (code := hs_mayKeepBack_code) (ld := [25]) (kl := [(25, fun ls st h => px_if (px_fit [0, 0, 0] ls && px_fits [1] st) (hs_mayKeepBack_25 (px_si st 0) h))]) (hs_mayKeepBack_orc_ok) pX_ok_RX3 hs_mayKeepBack_code_ok (px_k1 (px_ko (ts := [0, 0, 0]) (ss := [1]) fun ls st h q e => hs_mayKeepBack_25_ok _ _ _ e) px_k0) 19 24 _ _ h q e
set_option maxRecDepth 200000 in
theorem hs_mayKeepBack_ok {d : Nat} {x1 : Int32} {x2 : Int32} {h : pH} {q : Int32 × pH} (e : hs_mayKeepBack x1 x2 h = some q) : px_Con (d + 3) 39 [.inr (.inl 3), .inl x1, .inl x2] h q :=
  px_con (X := pX_RX3) (b := prog_5_method_21_code) (nL := 3) (rt := (some .boolean)) rfl rfl (Nat.le_of_ble_eq_true rfl) rfl (px_blk_ok (d := d + 2) (M := (pX_RX3, prog_5_method_21_code, 3, (some .boolean))) (C := hs_mayKeepBack_orc) (code := hs_mayKeepBack_code) (ld := [24, 25]) (kl := [(24, fun ls st h => px_if (px_fit [0, 0, 0] ls && px_fits [] st) (hs_mayKeepBack_24 h)), (25, fun ls st h => px_if (px_fit [0, 0, 0] ls && px_fits [1] st) (hs_mayKeepBack_25 (px_si st 0) h))]) (hs_mayKeepBack_orc_ok) pX_ok_RX3 hs_mayKeepBack_code_ok (px_k1 (px_ko (ts := [0, 0, 0]) (ss := []) fun ls st h q e => hs_mayKeepBack_24_ok _ _ e) (px_k1 (px_ko (ts := [0, 0, 0]) (ss := [1]) fun ls st h q e => hs_mayKeepBack_25_ok _ _ _ e) px_k0)) 19 0 _ _ _ q e)
/-! WordsUnsaid$House.areTwo(II)Z -/
noncomputable def hs_areTwo_26 (s0 : Int32) (h : pH) : pR :=
  px_bz s0 h
noncomputable def hs_areTwo_25 (h : pH) : pR :=
  hs_areTwo_26 (px_c 0) h
noncomputable def hs_areTwo (x1 : Int32) (x2 : Int32) (h : pH) : pR :=
  px_bind (hs_hasPerson x1 h) fun z1 h2 =>
  if z1 = 0 then
    hs_areTwo_25 h2
  else
    px_bind (hs_hasPerson x2 h2) fun z3 h4 =>
    if z3 = 0 then
      hs_areTwo_25 h4
    else
      if x1 = x2 then
        hs_areTwo_25 h4
      else
        hs_areTwo_26 (px_c 1) h4
def hs_areTwo_code : pCode := [(0, .aload_n 0, 1), (1, .iload_n 1, 1), (2, .invokevirtual 141, 3), (5, .ifCond .eq (20), 3), (8, .aload_n 0, 1), (9, .iload_n 2, 1), (10, .invokevirtual 141, 3), (13, .ifCond .eq (12), 3), (16, .iload_n 1, 1), (17, .iload_n 2, 1), (18, .if_icmp .eq (7), 3), (21, .iconst 1, 1), (22, .goto (4), 3), (25, .iconst 0, 1), (26, .ireturn, 1)]
set_option maxRecDepth 200000 in
theorem hs_areTwo_code_ok : px_code prog_5_method_22_code hs_areTwo_code = true := by decide +kernel
noncomputable def hs_areTwo_orc : pC := px_orc [(25, fun a h => match a with
    | [.inr (.inl 3), .inl v1] => hs_hasPerson v1 h
    | _ => none)]
theorem hs_areTwo_orc_ok {d : Nat} : px_Or (d + 1) (hs_areTwo_orc) := px_orc_ok (by
  refine px_o1 (fun a h q e => by
    dsimp only at e
    split at e
    · exact hs_hasPerson_ok (d := d + 0) e
    · cases e) ?_
  exact px_o0)
set_option maxRecDepth 200000 in
theorem hs_areTwo_26_ok {d : Nat} : ∀ (s0 : Int32) (h : pH) (q : Int32 × pH), hs_areTwo_26 s0 h = some q → px_G (d + 1 + 1) (pX_RX3, prog_5_method_22_code, 3, (some .boolean)) 26 [none, none, none] [.inl s0] h q := by
  intro s0 h q e
  exact px_blk_ok (d := d + 1) (M := (pX_RX3, prog_5_method_22_code, 3, (some .boolean))) (C := hs_areTwo_orc) (code := hs_areTwo_code) (ld := []) (kl := []) (hs_areTwo_orc_ok) pX_ok_RX3 hs_areTwo_code_ok (px_k0) 20 26 _ _ h q e
set_option maxRecDepth 200000 in
theorem hs_areTwo_25_ok {d : Nat} : ∀ (h : pH) (q : Int32 × pH), hs_areTwo_25 h = some q → px_G (d + 1 + 1) (pX_RX3, prog_5_method_22_code, 3, (some .boolean)) 25 [none, none, none] [] h q := by
  intro h q e
  exact px_blk_ok (d := d + 1) (M := (pX_RX3, prog_5_method_22_code, 3, (some .boolean))) (C := hs_areTwo_orc) (code := hs_areTwo_code) (ld := [26]) (kl := [(26, fun ls st h => px_if (px_fit [0, 0, 0] ls && px_fits [1] st) (hs_areTwo_26 (px_si st 0) h))]) (hs_areTwo_orc_ok) pX_ok_RX3 hs_areTwo_code_ok (px_k1 (px_ko (ts := [0, 0, 0]) (ss := [1]) fun ls st h q e => hs_areTwo_26_ok _ _ _ e) px_k0) 20 25 _ _ h q e
set_option maxRecDepth 200000 in
theorem hs_areTwo_ok {d : Nat} {x1 : Int32} {x2 : Int32} {h : pH} {q : Int32 × pH} (e : hs_areTwo x1 x2 h = some q) : px_Con (d + 2) 40 [.inr (.inl 3), .inl x1, .inl x2] h q :=
  px_con (X := pX_RX3) (b := prog_5_method_22_code) (nL := 3) (rt := (some .boolean)) rfl rfl (Nat.le_of_ble_eq_true rfl) rfl (px_blk_ok (d := d + 1) (M := (pX_RX3, prog_5_method_22_code, 3, (some .boolean))) (C := hs_areTwo_orc) (code := hs_areTwo_code) (ld := [25, 26]) (kl := [(25, fun ls st h => px_if (px_fit [0, 0, 0] ls && px_fits [] st) (hs_areTwo_25 h)), (26, fun ls st h => px_if (px_fit [0, 0, 0] ls && px_fits [1] st) (hs_areTwo_26 (px_si st 0) h))]) (hs_areTwo_orc_ok) pX_ok_RX3 hs_areTwo_code_ok (px_k1 (px_ko (ts := [0, 0, 0]) (ss := []) fun ls st h q e => hs_areTwo_25_ok _ _ e) (px_k1 (px_ko (ts := [0, 0, 0]) (ss := [1]) fun ls st h q e => hs_areTwo_26_ok _ _ _ e) px_k0)) 20 0 _ _ _ q e)
/-! WordsUnsaid$House.areTogether(II)Z -/
noncomputable def hs_areTogether_24 (s0 : Int32) (h : pH) : pR :=
  px_bz s0 h
noncomputable def hs_areTogether (x1 : Int32) (x2 : Int32) (h : pH) : pR :=
  px_bind (wu_at 5 x1 h) fun z1 h2 =>
  px_bind (wu_at 5 x2 h2) fun z3 h4 =>
  if z1 = z3 then
    hs_areTogether_24 (px_c 1) h4
  else
    hs_areTogether_24 (px_c 0) h4
def hs_areTogether_code : pCode := [(0, .aload_n 0, 1), (1, .getfield 15, 3), (4, .iload_n 1, 1), (5, .invokestatic 111, 3), (8, .aload_n 0, 1), (9, .getfield 15, 3), (12, .iload_n 2, 1), (13, .invokestatic 111, 3), (16, .if_icmp .ne (7), 3), (19, .iconst 1, 1), (20, .goto (4), 3), (23, .iconst 0, 1), (24, .ireturn, 1)]
set_option maxRecDepth 200000 in
theorem hs_areTogether_code_ok : px_code prog_5_method_23_code hs_areTogether_code = true := by decide +kernel
noncomputable def hs_areTogether_orc : pC := px_orc [(158, fun a h => match a with
    | [.inr (.inl v0), .inl v1] => wu_at v0 v1 h
    | _ => none)]
theorem hs_areTogether_orc_ok {d : Nat} : px_Or (d + 1) (hs_areTogether_orc) := px_orc_ok (by
  refine px_o1 (fun a h q e => by
    dsimp only at e
    split at e
    · exact wu_at_ok (d := d + 0) e
    · cases e) ?_
  exact px_o0)
set_option maxRecDepth 200000 in
theorem hs_areTogether_24_ok {d : Nat} : ∀ (s0 : Int32) (h : pH) (q : Int32 × pH), hs_areTogether_24 s0 h = some q → px_G (d + 1 + 1) (pX_RX3, prog_5_method_23_code, 3, (some .boolean)) 24 [none, none, none] [.inl s0] h q := by
  intro s0 h q e
  exact px_blk_ok (d := d + 1) (M := (pX_RX3, prog_5_method_23_code, 3, (some .boolean))) (C := hs_areTogether_orc) (code := hs_areTogether_code) (ld := []) (kl := []) (hs_areTogether_orc_ok) pX_ok_RX3 hs_areTogether_code_ok (px_k0) 18 24 _ _ h q e
set_option maxRecDepth 200000 in
theorem hs_areTogether_ok {d : Nat} {x1 : Int32} {x2 : Int32} {h : pH} {q : Int32 × pH} (e : hs_areTogether x1 x2 h = some q) : px_Con (d + 2) 41 [.inr (.inl 3), .inl x1, .inl x2] h q :=
  px_con (X := pX_RX3) (b := prog_5_method_23_code) (nL := 3) (rt := (some .boolean)) rfl rfl (Nat.le_of_ble_eq_true rfl) rfl (px_blk_ok (d := d + 1) (M := (pX_RX3, prog_5_method_23_code, 3, (some .boolean))) (C := hs_areTogether_orc) (code := hs_areTogether_code) (ld := [24]) (kl := [(24, fun ls st h => px_if (px_fit [0, 0, 0] ls && px_fits [1] st) (hs_areTogether_24 (px_si st 0) h))]) (hs_areTogether_orc_ok) pX_ok_RX3 hs_areTogether_code_ok (px_k1 (px_ko (ts := [0, 0, 0]) (ss := [1]) fun ls st h q e => hs_areTogether_24_ok _ _ _ e) px_k0) 18 0 _ _ _ q e)
/-! WordsUnsaid$House.newTo(II)I -/
noncomputable def hs_newTo (x1 : Int32) (x2 : Int32) (h : pH) : pR :=
  px_bind (wu_at 5 x1 h) fun z1 h2 =>
  px_bind (hs_peopleAt z1 h2) fun z3 h4 =>
  px_bind (wu_at 13 x2 h4) fun z5 h6 =>
  some (z3 &&& (z5 ^^^ (px_c (-1))), h6)
def hs_newTo_code : pCode := [(0, .aload_n 0, 1), (1, .aload_n 0, 1), (2, .getfield 15, 3), (5, .iload_n 1, 1), (6, .invokestatic 111, 3), (9, .invokevirtual 115, 3), (12, .aload_n 0, 1), (13, .getfield 39, 3), (16, .iload_n 2, 1), (17, .invokestatic 111, 3), (20, .iconst (-1), 1), (21, .ixor, 1), (22, .iand, 1), (23, .ireturn, 1)]
set_option maxRecDepth 200000 in
theorem hs_newTo_code_ok : px_code prog_5_method_24_code hs_newTo_code = true := by decide +kernel
noncomputable def hs_newTo_orc : pC := px_orc [(158, fun a h => match a with
    | [.inr (.inl v0), .inl v1] => wu_at v0 v1 h
    | _ => none), (27, fun a h => match a with
    | [.inr (.inl 3), .inl v1] => hs_peopleAt v1 h
    | _ => none)]
theorem hs_newTo_orc_ok {d : Nat} : px_Or (d + 2) (hs_newTo_orc) := px_orc_ok (by
  refine px_o1 (fun a h q e => by
    dsimp only at e
    split at e
    · exact wu_at_ok (d := d + 1) e
    · cases e) ?_
  refine px_o1 (fun a h q e => by
    dsimp only at e
    split at e
    · exact hs_peopleAt_ok (d := d + 0) e
    · cases e) ?_
  exact px_o0)
set_option maxRecDepth 200000 in
theorem hs_newTo_ok {d : Nat} {x1 : Int32} {x2 : Int32} {h : pH} {q : Int32 × pH} (e : hs_newTo x1 x2 h = some q) : px_Con (d + 3) 42 [.inr (.inl 3), .inl x1, .inl x2] h q :=
  px_con (X := pX_RX3) (b := prog_5_method_24_code) (nL := 3) (rt := (some .int)) rfl rfl (Nat.le_of_ble_eq_true rfl) rfl (px_blk_ok (d := d + 2) (M := (pX_RX3, prog_5_method_24_code, 3, (some .int))) (C := hs_newTo_orc) (code := hs_newTo_code) (ld := []) (kl := []) (hs_newTo_orc_ok) pX_ok_RX3 hs_newTo_code_ok (px_k0) 19 0 _ _ _ q e)
/-! WordsUnsaid$House.whyNotSay(II)I -/
noncomputable def hs_whyNotSay_58 (s0 : Int32) (h : pH) : pR :=
  some (s0, h)
noncomputable def hs_whyNotSay_57 (h : pH) : pR :=
  hs_whyNotSay_58 (px_c 0) h
noncomputable def hs_whyNotSay (x1 : Int32) (x2 : Int32) (h : pH) : pR :=
  px_bind (hs_owns x1 x2 h) fun z1 h2 =>
  if z1 = 0 then
    some (px_c (-1), h2)
  else
    px_bind (wu_at 12 x2 h2) fun z3 h4 =>
    if z3 = (px_c 1) then
      some (px_c (-3), h4)
    else
      px_bind (wu_at 11 x2 h4) fun z5 h6 =>
      px_bind (hs_hasPerson z5 h6) fun z7 h8 =>
      if z7 = 0 then
        hs_whyNotSay_57 h8
      else
        px_bind (hs_areTogether x1 z5 h8) fun z9 h10 =>
        if z9 = 0 then
          hs_whyNotSay_57 h10
        else
          hs_whyNotSay_58 (px_c (-2)) h10
def hs_whyNotSay_code : pCode := [(0, .aload_n 0, 1), (1, .iload_n 1, 1), (2, .iload_n 2, 1), (3, .invokevirtual 144, 3), (6, .ifCond .ne (5), 3), (9, .iconst (-1), 1), (10, .ireturn, 1), (11, .aload_n 0, 1), (12, .getfield 36, 3), (15, .iload_n 2, 1), (16, .invokestatic 111, 3), (19, .iconst 1, 1), (20, .if_icmp .ne (6), 3), (23, .bipush (-3), 2), (25, .ireturn, 1), (26, .aload_n 0, 1), (27, .getfield 33, 3), (30, .iload_n 2, 1), (31, .invokestatic 111, 3), (34, .istore_n 3, 1), (35, .aload_n 0, 1), (36, .iload_n 3, 1), (37, .invokevirtual 141, 3), (40, .ifCond .eq (17), 3), (43, .aload_n 0, 1), (44, .iload_n 1, 1), (45, .iload_n 3, 1), (46, .invokevirtual 147, 3), (49, .ifCond .eq (8), 3), (52, .bipush (-2), 2), (54, .goto (4), 3), (57, .iconst 0, 1), (58, .ireturn, 1)]
set_option maxRecDepth 200000 in
theorem hs_whyNotSay_code_ok : px_code prog_5_method_25_code hs_whyNotSay_code = true := by decide +kernel
noncomputable def hs_whyNotSay_orc : pC := px_orc [(38, fun a h => match a with
    | [.inr (.inl 3), .inl v1, .inl v2] => hs_owns v1 v2 h
    | _ => none), (158, fun a h => match a with
    | [.inr (.inl v0), .inl v1] => wu_at v0 v1 h
    | _ => none), (25, fun a h => match a with
    | [.inr (.inl 3), .inl v1] => hs_hasPerson v1 h
    | _ => none), (41, fun a h => match a with
    | [.inr (.inl 3), .inl v1, .inl v2] => hs_areTogether v1 v2 h
    | _ => none)]
theorem hs_whyNotSay_orc_ok {d : Nat} : px_Or (d + 2) (hs_whyNotSay_orc) := px_orc_ok (by
  refine px_o1 (fun a h q e => by
    dsimp only at e
    split at e
    · exact hs_owns_ok (d := d + 0) e
    · cases e) ?_
  refine px_o1 (fun a h q e => by
    dsimp only at e
    split at e
    · exact wu_at_ok (d := d + 1) e
    · cases e) ?_
  refine px_o1 (fun a h q e => by
    dsimp only at e
    split at e
    · exact hs_hasPerson_ok (d := d + 1) e
    · cases e) ?_
  refine px_o1 (fun a h q e => by
    dsimp only at e
    split at e
    · exact hs_areTogether_ok (d := d + 0) e
    · cases e) ?_
  exact px_o0)
set_option maxRecDepth 200000 in
theorem hs_whyNotSay_58_ok {d : Nat} : ∀ (s0 : Int32) (h : pH) (q : Int32 × pH), hs_whyNotSay_58 s0 h = some q → px_G (d + 2 + 1) (pX_RX3, prog_5_method_25_code, 4, (some .int)) 58 [none, none, none, none] [.inl s0] h q := by
  intro s0 h q e
  exact px_blk_ok (d := d + 2) (M := (pX_RX3, prog_5_method_25_code, 4, (some .int))) (C := hs_whyNotSay_orc) (code := hs_whyNotSay_code) (ld := []) (kl := []) (hs_whyNotSay_orc_ok) pX_ok_RX3 hs_whyNotSay_code_ok (px_k0) 38 58 _ _ h q e
set_option maxRecDepth 200000 in
theorem hs_whyNotSay_57_ok {d : Nat} : ∀ (h : pH) (q : Int32 × pH), hs_whyNotSay_57 h = some q → px_G (d + 2 + 1) (pX_RX3, prog_5_method_25_code, 4, (some .int)) 57 [none, none, none, none] [] h q := by
  intro h q e
  exact px_blk_ok (d := d + 2) (M := (pX_RX3, prog_5_method_25_code, 4, (some .int))) (C := hs_whyNotSay_orc) (code := hs_whyNotSay_code) (ld := [58]) (kl := [(58, fun ls st h => px_if (px_fit [0, 0, 0, 0] ls && px_fits [1] st) (hs_whyNotSay_58 (px_si st 0) h))]) (hs_whyNotSay_orc_ok) pX_ok_RX3 hs_whyNotSay_code_ok (px_k1 (px_ko (ts := [0, 0, 0, 0]) (ss := [1]) fun ls st h q e => hs_whyNotSay_58_ok _ _ _ e) px_k0) 38 57 _ _ h q e
set_option maxRecDepth 200000 in
theorem hs_whyNotSay_ok {d : Nat} {x1 : Int32} {x2 : Int32} {h : pH} {q : Int32 × pH} (e : hs_whyNotSay x1 x2 h = some q) : px_Con (d + 3) 43 [.inr (.inl 3), .inl x1, .inl x2] h q :=
  px_con (X := pX_RX3) (b := prog_5_method_25_code) (nL := 4) (rt := (some .int)) rfl rfl (Nat.le_of_ble_eq_true rfl) rfl (px_blk_ok (d := d + 2) (M := (pX_RX3, prog_5_method_25_code, 4, (some .int))) (C := hs_whyNotSay_orc) (code := hs_whyNotSay_code) (ld := [57, 58]) (kl := [(57, fun ls st h => px_if (px_fit [0, 0, 0, 0] ls && px_fits [] st) (hs_whyNotSay_57 h)), (58, fun ls st h => px_if (px_fit [0, 0, 0, 0] ls && px_fits [1] st) (hs_whyNotSay_58 (px_si st 0) h))]) (hs_whyNotSay_orc_ok) pX_ok_RX3 hs_whyNotSay_code_ok (px_k1 (px_ko (ts := [0, 0, 0, 0]) (ss := []) fun ls st h q e => hs_whyNotSay_57_ok _ _ e) (px_k1 (px_ko (ts := [0, 0, 0, 0]) (ss := [1]) fun ls st h q e => hs_whyNotSay_58_ok _ _ _ e) px_k0)) 38 0 _ _ _ q e)
/-! WordsUnsaid$House.tellTo(II)V -/
noncomputable def hs_tellTo (x1 : Int32) (x2 : Int32) (h : pH) : pR :=
  px_bind (wu_put 12 x1 (px_c 1) h) fun _ h2 =>
  px_bind (wu_at 13 x1 h2) fun z3 h4 =>
  px_bind (wu_put 13 x1 (z3 ||| x2) h4) fun _ h6 =>
  some (0, h6)
def hs_tellTo_code : pCode := [(0, .aload_n 0, 1), (1, .getfield 36, 3), (4, .iload_n 1, 1), (5, .iconst 1, 1), (6, .invokestatic 97, 3), (9, .aload_n 0, 1), (10, .getfield 39, 3), (13, .iload_n 1, 1), (14, .aload_n 0, 1), (15, .getfield 39, 3), (18, .iload_n 1, 1), (19, .invokestatic 111, 3), (22, .iload_n 2, 1), (23, .ior, 1), (24, .invokestatic 97, 3), (27, .return_, 1)]
set_option maxRecDepth 200000 in
theorem hs_tellTo_code_ok : px_code prog_5_method_28_code hs_tellTo_code = true := by decide +kernel
noncomputable def hs_tellTo_orc : pC := px_orc [(159, fun a h => match a with
    | [.inr (.inl v0), .inl v1, .inl v2] => wu_put v0 v1 v2 h
    | _ => none), (158, fun a h => match a with
    | [.inr (.inl v0), .inl v1] => wu_at v0 v1 h
    | _ => none)]
theorem hs_tellTo_orc_ok {d : Nat} : px_Or (d + 1) (hs_tellTo_orc) := px_orc_ok (by
  refine px_o1 (fun a h q e => by
    dsimp only at e
    split at e
    · exact wu_put_ok (d := d + 0) e
    · cases e) ?_
  refine px_o1 (fun a h q e => by
    dsimp only at e
    split at e
    · exact wu_at_ok (d := d + 0) e
    · cases e) ?_
  exact px_o0)
set_option maxRecDepth 200000 in
theorem hs_tellTo_ok {d : Nat} {x1 : Int32} {x2 : Int32} {h : pH} {q : Int32 × pH} (e : hs_tellTo x1 x2 h = some q) : px_Con (d + 2) 46 [.inr (.inl 3), .inl x1, .inl x2] h q :=
  px_con (X := pX_RX3) (b := prog_5_method_28_code) (nL := 3) (rt := none) rfl rfl (Nat.le_of_ble_eq_true rfl) rfl (px_blk_ok (d := d + 1) (M := (pX_RX3, prog_5_method_28_code, 3, none)) (C := hs_tellTo_orc) (code := hs_tellTo_code) (ld := []) (kl := []) (hs_tellTo_orc_ok) pX_ok_RX3 hs_tellTo_code_ok (px_k0) 21 0 _ _ _ q e)
/-! WordsUnsaid$House.speak(II)I -/
noncomputable def hs_speak (x1 : Int32) (x2 : Int32) (h : pH) : pR :=
  px_bind (hs_whyNotSay x1 x2 h) fun z1 h2 =>
  if 0 ≤ z1 then
    px_bind (hs_newTo x1 x2 h2) fun z3 h4 =>
    px_bind (hs_tellTo x2 z3 h4) fun _ h6 =>
    px_bind (jn_bitCount z3 h6) fun z7 h8 =>
    some (z7, h8)
  else
    some (z1, h2)
def hs_speak_code : pCode := [(0, .aload_n 0, 1), (1, .iload_n 1, 1), (2, .iload_n 2, 1), (3, .invokevirtual 150, 3), (6, .istore_n 3, 1), (7, .iload_n 3, 1), (8, .ifCond .ge (5), 3), (11, .iload_n 3, 1), (12, .ireturn, 1), (13, .aload_n 0, 1), (14, .iload_n 1, 1), (15, .iload_n 2, 1), (16, .invokevirtual 153, 3), (19, .istore 4, 2), (21, .aload_n 0, 1), (22, .iload_n 2, 1), (23, .iload 4, 2), (25, .invokevirtual 156, 3), (28, .iload 4, 2), (30, .invokestatic 136, 3), (33, .ireturn, 1)]
set_option maxRecDepth 200000 in
theorem hs_speak_code_ok : px_code prog_5_method_26_code hs_speak_code = true := by decide +kernel
noncomputable def hs_speak_orc : pC := px_orc [(43, fun a h => match a with
    | [.inr (.inl 3), .inl v1, .inl v2] => hs_whyNotSay v1 v2 h
    | _ => none), (42, fun a h => match a with
    | [.inr (.inl 3), .inl v1, .inl v2] => hs_newTo v1 v2 h
    | _ => none), (46, fun a h => match a with
    | [.inr (.inl 3), .inl v1, .inl v2] => hs_tellTo v1 v2 h
    | _ => none), (279, fun a h => match a with
    | [.inl v0] => jn_bitCount v0 h
    | _ => none)]
theorem hs_speak_orc_ok {d : Nat} : px_Or (d + 3) (hs_speak_orc) := px_orc_ok (by
  refine px_o1 (fun a h q e => by
    dsimp only at e
    split at e
    · exact hs_whyNotSay_ok (d := d + 0) e
    · cases e) ?_
  refine px_o1 (fun a h q e => by
    dsimp only at e
    split at e
    · exact hs_newTo_ok (d := d + 0) e
    · cases e) ?_
  refine px_o1 (fun a h q e => by
    dsimp only at e
    split at e
    · exact hs_tellTo_ok (d := d + 1) e
    · cases e) ?_
  refine px_o1 (fun a h q e => by
    dsimp only at e
    split at e
    · exact jn_bitCount_ok (d := d + 2) e
    · cases e) ?_
  exact px_o0)
set_option maxRecDepth 200000 in
theorem hs_speak_ok {d : Nat} {x1 : Int32} {x2 : Int32} {h : pH} {q : Int32 × pH} (e : hs_speak x1 x2 h = some q) : px_Con (d + 4) 44 [.inr (.inl 3), .inl x1, .inl x2] h q :=
  px_con (X := pX_RX3) (b := prog_5_method_26_code) (nL := 5) (rt := (some .int)) rfl rfl (Nat.le_of_ble_eq_true rfl) rfl (px_blk_ok (d := d + 3) (M := (pX_RX3, prog_5_method_26_code, 5, (some .int))) (C := hs_speak_orc) (code := hs_speak_code) (ld := []) (kl := []) (hs_speak_orc_ok) pX_ok_RX3 hs_speak_code_ok (px_k0) 26 0 _ _ _ q e)
/-! WordsUnsaid$House.passOn(III)I -/
noncomputable def hs_passOn_55 (h : pH) : pR :=
  some (px_c (-1), h)
noncomputable def hs_passOn_89 (x2 : Int32) (x3 : Int32) (s0 : Int32) (h : pH) : pR :=
  px_bind (wu_at 13 x3 h) fun z1 h2 =>
  px_bind (wu_put 13 x3 (z1 ||| ((px_c 1) <<< (x2 &&& 31))) h2) fun _ h4 =>
  some (s0, h4)
noncomputable def hs_passOn_57 (x1 : Int32) (x2 : Int32) (x3 : Int32) (h : pH) : pR :=
  px_bind (hs_areTogether x1 x2 h) fun z1 h2 =>
  if z1 = 0 then
    some (px_c (-2), h2)
  else
    px_bind (wu_at 13 x3 h2) fun z3 h4 =>
    px_bind (wu_has z3 x2 h4) fun z5 h6 =>
    if z5 = 0 then
      hs_passOn_89 x2 x3 (px_c 1) h6
    else
      hs_passOn_89 x2 x3 (px_c 0) h6
noncomputable def hs_passOn (x1 : Int32) (x2 : Int32) (x3 : Int32) (h : pH) : pR :=
  px_bind (hs_areTwo x1 x2 h) fun z1 h2 =>
  if z1 = 0 then
    hs_passOn_55 h2
  else
    px_bind (hs_hasThing x3 h2) fun z3 h4 =>
    if z3 = 0 then
      hs_passOn_55 h4
    else
      px_bind (wu_at 13 x3 h4) fun z5 h6 =>
      px_bind (wu_has z5 x1 h6) fun z7 h8 =>
      if z7 = 0 then
        hs_passOn_55 h8
      else
        px_bind (wu_at 12 x3 h8) fun z9 h10 =>
        if z9 = 0 then
          px_bind (wu_at 10 x3 h10) fun z11 h12 =>
          if z11 = x1 then
            hs_passOn_57 x1 x2 x3 h12
          else
            hs_passOn_55 h12
        else
          hs_passOn_57 x1 x2 x3 h10
def hs_passOn_code : pCode := [(0, .aload_n 0, 1), (1, .iload_n 1, 1), (2, .iload_n 2, 1), (3, .invokevirtual 160, 3), (6, .ifCond .eq (49), 3), (9, .aload_n 0, 1), (10, .iload_n 3, 1), (11, .invokevirtual 125, 3), (14, .ifCond .eq (41), 3), (17, .aload_n 0, 1), (18, .getfield 39, 3), (21, .iload_n 3, 1), (22, .invokestatic 111, 3), (25, .iload_n 1, 1), (26, .invokestatic 121, 3), (29, .ifCond .eq (26), 3), (32, .aload_n 0, 1), (33, .getfield 36, 3), (36, .iload_n 3, 1), (37, .invokestatic 111, 3), (40, .ifCond .ne (17), 3), (43, .aload_n 0, 1), (44, .getfield 30, 3), (47, .iload_n 3, 1), (48, .invokestatic 111, 3), (51, .iload_n 1, 1), (52, .if_icmp .eq (5), 3), (55, .iconst (-1), 1), (56, .ireturn, 1), (57, .aload_n 0, 1), (58, .iload_n 1, 1), (59, .iload_n 2, 1), (60, .invokevirtual 147, 3), (63, .ifCond .ne (6), 3), (66, .bipush (-2), 2), (68, .ireturn, 1), (69, .aload_n 0, 1), (70, .getfield 39, 3), (73, .iload_n 3, 1), (74, .invokestatic 111, 3), (77, .iload_n 2, 1), (78, .invokestatic 121, 3), (81, .ifCond .eq (7), 3), (84, .iconst 0, 1), (85, .goto (4), 3), (88, .iconst 1, 1), (89, .istore 4, 2), (91, .aload_n 0, 1), (92, .getfield 39, 3), (95, .iload_n 3, 1), (96, .aload_n 0, 1), (97, .getfield 39, 3), (100, .iload_n 3, 1), (101, .invokestatic 111, 3), (104, .iconst 1, 1), (105, .iload_n 2, 1), (106, .ishl, 1), (107, .ior, 1), (108, .invokestatic 97, 3), (111, .iload 4, 2), (113, .ireturn, 1)]
set_option maxRecDepth 200000 in
theorem hs_passOn_code_ok : px_code prog_5_method_27_code hs_passOn_code = true := by decide +kernel
noncomputable def hs_passOn_orc : pC := px_orc [(158, fun a h => match a with
    | [.inr (.inl v0), .inl v1] => wu_at v0 v1 h
    | _ => none), (159, fun a h => match a with
    | [.inr (.inl v0), .inl v1, .inl v2] => wu_put v0 v1 v2 h
    | _ => none), (41, fun a h => match a with
    | [.inr (.inl 3), .inl v1, .inl v2] => hs_areTogether v1 v2 h
    | _ => none), (160, fun a h => match a with
    | [.inl v0, .inl v1] => wu_has v0 v1 h
    | _ => none), (40, fun a h => match a with
    | [.inr (.inl 3), .inl v1, .inl v2] => hs_areTwo v1 v2 h
    | _ => none), (26, fun a h => match a with
    | [.inr (.inl 3), .inl v1] => hs_hasThing v1 h
    | _ => none)]
theorem hs_passOn_orc_ok {d : Nat} : px_Or (d + 2) (hs_passOn_orc) := px_orc_ok (by
  refine px_o1 (fun a h q e => by
    dsimp only at e
    split at e
    · exact wu_at_ok (d := d + 1) e
    · cases e) ?_
  refine px_o1 (fun a h q e => by
    dsimp only at e
    split at e
    · exact wu_put_ok (d := d + 1) e
    · cases e) ?_
  refine px_o1 (fun a h q e => by
    dsimp only at e
    split at e
    · exact hs_areTogether_ok (d := d + 0) e
    · cases e) ?_
  refine px_o1 (fun a h q e => by
    dsimp only at e
    split at e
    · exact wu_has_ok (d := d + 1) e
    · cases e) ?_
  refine px_o1 (fun a h q e => by
    dsimp only at e
    split at e
    · exact hs_areTwo_ok (d := d + 0) e
    · cases e) ?_
  refine px_o1 (fun a h q e => by
    dsimp only at e
    split at e
    · exact hs_hasThing_ok (d := d + 1) e
    · cases e) ?_
  exact px_o0)
set_option maxRecDepth 200000 in
theorem hs_passOn_55_ok {d : Nat} : ∀ (h : pH) (q : Int32 × pH), hs_passOn_55 h = some q → px_G (d + 2 + 1) (pX_RX3, prog_5_method_27_code, 5, (some .int)) 55 [none, none, none, none, none] [] h q := by
  intro h q e
  exact px_blk_ok (d := d + 2) (M := (pX_RX3, prog_5_method_27_code, 5, (some .int))) (C := hs_passOn_orc) (code := hs_passOn_code) (ld := []) (kl := []) (hs_passOn_orc_ok) pX_ok_RX3 hs_passOn_code_ok (px_k0) 66 55 _ _ h q e
set_option maxRecDepth 200000 in
theorem hs_passOn_89_ok {d : Nat} : ∀ (x2 : Int32) (x3 : Int32) (s0 : Int32) (h : pH) (q : Int32 × pH), hs_passOn_89 x2 x3 s0 h = some q → px_G (d + 2 + 1) (pX_RX3, prog_5_method_27_code, 5, (some .int)) 89 [some (.inr (.inl 3)), none, some (.inl x2), some (.inl x3), none] [.inl s0] h q := by
  intro x2 x3 s0 h q e
  exact px_blk_ok (d := d + 2) (M := (pX_RX3, prog_5_method_27_code, 5, (some .int))) (C := hs_passOn_orc) (code := hs_passOn_code) (ld := []) (kl := []) (hs_passOn_orc_ok) pX_ok_RX3 hs_passOn_code_ok (px_k0) 66 89 _ _ h q e
set_option maxRecDepth 200000 in
theorem hs_passOn_57_ok {d : Nat} : ∀ (x1 : Int32) (x2 : Int32) (x3 : Int32) (h : pH) (q : Int32 × pH), hs_passOn_57 x1 x2 x3 h = some q → px_G (d + 2 + 1) (pX_RX3, prog_5_method_27_code, 5, (some .int)) 57 [some (.inr (.inl 3)), some (.inl x1), some (.inl x2), some (.inl x3), none] [] h q := by
  intro x1 x2 x3 h q e
  exact px_blk_ok (d := d + 2) (M := (pX_RX3, prog_5_method_27_code, 5, (some .int))) (C := hs_passOn_orc) (code := hs_passOn_code) (ld := [89]) (kl := [(89, fun ls st h => px_if (px_fit [13, 0, 1, 1, 0] ls && px_fits [1] st) (hs_passOn_89 (px_gi ls 2) (px_gi ls 3) (px_si st 0) h))]) (hs_passOn_orc_ok) pX_ok_RX3 hs_passOn_code_ok (px_k1 (px_ko (ts := [13, 0, 1, 1, 0]) (ss := [1]) fun ls st h q e => hs_passOn_89_ok _ _ _ _ _ e) px_k0) 66 57 _ _ h q e
set_option maxRecDepth 200000 in
theorem hs_passOn_ok {d : Nat} {x1 : Int32} {x2 : Int32} {x3 : Int32} {h : pH} {q : Int32 × pH} (e : hs_passOn x1 x2 x3 h = some q) : px_Con (d + 3) 45 [.inr (.inl 3), .inl x1, .inl x2, .inl x3] h q :=
  px_con (X := pX_RX3) (b := prog_5_method_27_code) (nL := 5) (rt := (some .int)) rfl rfl (Nat.le_of_ble_eq_true rfl) rfl (px_blk_ok (d := d + 2) (M := (pX_RX3, prog_5_method_27_code, 5, (some .int))) (C := hs_passOn_orc) (code := hs_passOn_code) (ld := [57, 55]) (kl := [(57, fun ls st h => px_if (px_fit [13, 1, 1, 1, 0] ls && px_fits [] st) (hs_passOn_57 (px_gi ls 1) (px_gi ls 2) (px_gi ls 3) h)), (55, fun ls st h => px_if (px_fit [0, 0, 0, 0, 0] ls && px_fits [] st) (hs_passOn_55 h))]) (hs_passOn_orc_ok) pX_ok_RX3 hs_passOn_code_ok (px_k1 (px_ko (ts := [13, 1, 1, 1, 0]) (ss := []) fun ls st h q e => hs_passOn_57_ok _ _ _ _ _ e) (px_k1 (px_ko (ts := [0, 0, 0, 0, 0]) (ss := []) fun ls st h q e => hs_passOn_55_ok _ _ e) px_k0)) 66 0 _ _ _ q e)
/-! WordsUnsaid$House.move(II)V -/
noncomputable def hs_move_27 (r2 : Int32 → Int32 → Int32 → pH → pR) (x1 : Int32) (x2 : Int32) (x3 : Int32) (h : pH) : pR :=
  r2 x1 x2 (x3 + px_c 1) h
noncomputable def hs_move_2 : Nat → Int32 → Int32 → Int32 → pH → pR
  | 0, _, _, _, _ => none
  | n + 1, x1, x2, x3, h =>
    if (h 3 10) ≤ x3 then
      some (0, h)
    else
      px_bind (wu_has x1 x3 h) fun z1 h2 =>
      if z1 = 0 then
        hs_move_27 (hs_move_2 n) x1 x2 x3 h2
      else
        px_bind (wu_put 5 x3 x2 h2) fun _ h4 =>
        hs_move_27 (hs_move_2 n) x1 x2 x3 h4
noncomputable def hs_move (x1 : Int32) (x2 : Int32) (h : pH) : pR :=
  hs_move_2 px_F x1 x2 (px_c 0) h
def hs_move_code : pCode := [(0, .iconst 0, 1), (1, .istore_n 3, 1), (2, .iload_n 3, 1), (3, .aload_n 0, 1), (4, .getfield 48, 3), (7, .if_icmp .ge (26), 3), (10, .iload_n 1, 1), (11, .iload_n 3, 1), (12, .invokestatic 121, 3), (15, .ifCond .eq (12), 3), (18, .aload_n 0, 1), (19, .getfield 15, 3), (22, .iload_n 3, 1), (23, .iload_n 2, 1), (24, .invokestatic 97, 3), (27, .iinc 3 (1), 3), (30, .goto (-28), 3), (33, .return_, 1)]
set_option maxRecDepth 200000 in
theorem hs_move_code_ok : px_code prog_5_method_29_code hs_move_code = true := by decide +kernel
noncomputable def hs_move_orc : pC := px_orc [(160, fun a h => match a with
    | [.inl v0, .inl v1] => wu_has v0 v1 h
    | _ => none), (159, fun a h => match a with
    | [.inr (.inl v0), .inl v1, .inl v2] => wu_put v0 v1 v2 h
    | _ => none)]
theorem hs_move_orc_ok {d : Nat} : px_Or (d + 1) (hs_move_orc) := px_orc_ok (by
  refine px_o1 (fun a h q e => by
    dsimp only at e
    split at e
    · exact wu_has_ok (d := d + 0) e
    · cases e) ?_
  refine px_o1 (fun a h q e => by
    dsimp only at e
    split at e
    · exact wu_put_ok (d := d + 0) e
    · cases e) ?_
  exact px_o0)
set_option maxRecDepth 200000 in
theorem hs_move_27_ok {d : Nat} {r2 : Int32 → Int32 → Int32 → pH → pR} (hr2 : ∀ (x1 : Int32) (x2 : Int32) (x3 : Int32) (h : pH) (q : Int32 × pH), r2 x1 x2 x3 h = some q → px_G (d + 1 + 1) (pX_RX3, prog_5_method_29_code, 4, none) 2 [some (.inr (.inl 3)), some (.inl x1), some (.inl x2), some (.inl x3)] [] h q) : ∀ (x1 : Int32) (x2 : Int32) (x3 : Int32) (h : pH) (q : Int32 × pH), hs_move_27 r2 x1 x2 x3 h = some q → px_G (d + 1 + 1) (pX_RX3, prog_5_method_29_code, 4, none) 27 [some (.inr (.inl 3)), some (.inl x1), some (.inl x2), some (.inl x3)] [] h q := by
  intro x1 x2 x3 h q e
  exact px_blk_ok (d := d + 1) (M := (pX_RX3, prog_5_method_29_code, 4, none)) (C := hs_move_orc) (code := hs_move_code) (ld := [2]) (kl := [(2, fun ls st h => px_if (px_fit [13, 1, 1, 1] ls && px_fits [] st) (r2 (px_gi ls 1) (px_gi ls 2) (px_gi ls 3) h))]) (hs_move_orc_ok) pX_ok_RX3 hs_move_code_ok (px_k1 (px_ko (ts := [13, 1, 1, 1]) (ss := []) fun ls st h q e => hr2 _ _ _ _ _ e) px_k0) 23 27 _ _ h q e
set_option maxRecDepth 200000 in
theorem hs_move_2_ok {d : Nat} : ∀ (n : Nat) (x1 : Int32) (x2 : Int32) (x3 : Int32) (h : pH) (q : Int32 × pH), hs_move_2 n x1 x2 x3 h = some q → px_G (d + 1 + 1) (pX_RX3, prog_5_method_29_code, 4, none) 2 [some (.inr (.inl 3)), some (.inl x1), some (.inl x2), some (.inl x3)] [] h q := by
  intro n
  induction n with
  | zero =>
    intro x1 x2 x3 h q e
    cases e
  | succ n ih =>
    intro x1 x2 x3 h q e
    exact px_blk_ok (d := d + 1) (M := (pX_RX3, prog_5_method_29_code, 4, none)) (C := hs_move_orc) (code := hs_move_code) (ld := [27]) (kl := [(27, fun ls st h => px_if (px_fit [13, 1, 1, 1] ls && px_fits [] st) (hs_move_27 (hs_move_2 n) (px_gi ls 1) (px_gi ls 2) (px_gi ls 3) h))]) (hs_move_orc_ok) pX_ok_RX3 hs_move_code_ok (px_k1 (px_ko (ts := [13, 1, 1, 1]) (ss := []) fun ls st h q e => hs_move_27_ok ih _ _ _ _ _ e) px_k0) 23 2 _ _ h q e
set_option maxRecDepth 200000 in
theorem hs_move_ok {d : Nat} {x1 : Int32} {x2 : Int32} {h : pH} {q : Int32 × pH} (e : hs_move x1 x2 h = some q) : px_Con (d + 2) 47 [.inr (.inl 3), .inl x1, .inl x2] h q :=
  px_con (X := pX_RX3) (b := prog_5_method_29_code) (nL := 4) (rt := none) rfl rfl (Nat.le_of_ble_eq_true rfl) rfl (px_blk_ok (d := d + 1) (M := (pX_RX3, prog_5_method_29_code, 4, none)) (C := hs_move_orc) (code := hs_move_code) (ld := [2]) (kl := [(2, fun ls st h => px_if (px_fit [13, 1, 1, 1] ls && px_fits [] st) (hs_move_2 px_F (px_gi ls 1) (px_gi ls 2) (px_gi ls 3) h))]) (hs_move_orc_ok) pX_ok_RX3 hs_move_code_ok (px_k1 (px_ko (ts := [13, 1, 1, 1]) (ss := []) fun ls st h q e => hs_move_2_ok _ _ _ _ _ _ e) px_k0) 23 0 _ _ _ q e)
/-! WordsUnsaid$House.price(I)I -/
noncomputable def hs_price (x1 : Int32) (h : pH) : pR :=
  px_bind (wu_at 8 x1 h) fun z1 h2 =>
  if (px_c 5) = 0 then none else
  some (((z1 + (px_c 5)) - (px_c 1)) / (px_c 5), h2)
def hs_price_code : pCode := [(0, .aload_n 0, 1), (1, .getfield 24, 3), (4, .iload_n 1, 1), (5, .invokestatic 111, 3), (8, .iconst 5, 1), (9, .iadd, 1), (10, .iconst 1, 1), (11, .isub, 1), (12, .iconst 5, 1), (13, .idiv, 1), (14, .ireturn, 1)]
set_option maxRecDepth 200000 in
theorem hs_price_code_ok : px_code prog_5_method_30_code hs_price_code = true := by decide +kernel
noncomputable def hs_price_orc : pC := px_orc [(158, fun a h => match a with
    | [.inr (.inl v0), .inl v1] => wu_at v0 v1 h
    | _ => none)]
theorem hs_price_orc_ok {d : Nat} : px_Or (d + 1) (hs_price_orc) := px_orc_ok (by
  refine px_o1 (fun a h q e => by
    dsimp only at e
    split at e
    · exact wu_at_ok (d := d + 0) e
    · cases e) ?_
  exact px_o0)
set_option maxRecDepth 200000 in
theorem hs_price_ok {d : Nat} {x1 : Int32} {h : pH} {q : Int32 × pH} (e : hs_price x1 h = some q) : px_Con (d + 2) 48 [.inr (.inl 3), .inl x1] h q :=
  px_con (X := pX_RX3) (b := prog_5_method_30_code) (nL := 2) (rt := (some .int)) rfl rfl (Nat.le_of_ble_eq_true rfl) rfl (px_blk_ok (d := d + 1) (M := (pX_RX3, prog_5_method_30_code, 2, (some .int))) (C := hs_price_orc) (code := hs_price_code) (ld := []) (kl := []) (hs_price_orc_ok) pX_ok_RX3 hs_price_code_ok (px_k0) 16 0 _ _ _ q e)
/-! WordsUnsaid$House.whyNotSell(III)I -/
noncomputable def hs_whyNotSell_29 (h : pH) : pR :=
  some (px_c (-1), h)
noncomputable def hs_whyNotSell_109 (s0 : Int32) (h : pH) : pR :=
  some (s0, h)
noncomputable def hs_whyNotSell_107 (h : pH) : pR :=
  hs_whyNotSell_109 (px_c (-3)) h
noncomputable def hs_whyNotSell_84 (x2 : Int32) (x3 : Int32) (s0 : Int32) (h : pH) : pR :=
  if s0 = 0 then
    hs_whyNotSell_107 h
  else
    px_bind (wu_at 11 x3 h) fun z1 h2 =>
    if z1 = x2 then
      hs_whyNotSell_107 h2
    else
      hs_whyNotSell_109 (px_c 0) h2
noncomputable def hs_whyNotSell_83 (x2 : Int32) (x3 : Int32) (h : pH) : pR :=
  hs_whyNotSell_84 x2 x3 (px_c 0) h
noncomputable def hs_whyNotSell (x1 : Int32) (x2 : Int32) (x3 : Int32) (h : pH) : pR :=
  px_bind (hs_areTwo x1 x2 h) fun z1 h2 =>
  if z1 = 0 then
    hs_whyNotSell_29 h2
  else
    px_bind (hs_mayKeepBack x1 x3 h2) fun z3 h4 =>
    if z3 = 0 then
      hs_whyNotSell_29 h4
    else
      px_bind (wu_at 8 x3 h4) fun z5 h6 =>
      if z5 = 0 then
        hs_whyNotSell_29 h6
      else
        px_bind (hs_areTogether x1 x2 h6) fun z7 h8 =>
        if z7 = 0 then
          some (px_c (-2), h8)
        else
          px_bind (hs_price x3 h8) fun z9 h10 =>
          px_bind (wu_at 6 x2 h10) fun z11 h12 =>
          if z11 < z9 then
            hs_whyNotSell_83 x2 x3 h12
          else
            px_bind (wu_at 6 x1 h12) fun z13 h14 =>
            if (px_c 99) < (z13 + z9) then
              hs_whyNotSell_83 x2 x3 h14
            else
              hs_whyNotSell_84 x2 x3 (px_c 1) h14
def hs_whyNotSell_code : pCode := [(0, .aload_n 0, 1), (1, .iload_n 1, 1), (2, .iload_n 2, 1), (3, .invokevirtual 160, 3), (6, .ifCond .eq (23), 3), (9, .aload_n 0, 1), (10, .iload_n 1, 1), (11, .iload_n 3, 1), (12, .invokevirtual 163, 3), (15, .ifCond .eq (14), 3), (18, .aload_n 0, 1), (19, .getfield 24, 3), (22, .iload_n 3, 1), (23, .invokestatic 111, 3), (26, .ifCond .ne (5), 3), (29, .iconst (-1), 1), (30, .ireturn, 1), (31, .aload_n 0, 1), (32, .iload_n 1, 1), (33, .iload_n 2, 1), (34, .invokevirtual 147, 3), (37, .ifCond .ne (6), 3), (40, .bipush (-2), 2), (42, .ireturn, 1), (43, .aload_n 0, 1), (44, .iload_n 3, 1), (45, .invokevirtual 166, 3), (48, .istore 4, 2), (50, .aload_n 0, 1), (51, .getfield 18, 3), (54, .iload_n 2, 1), (55, .invokestatic 111, 3), (58, .iload 4, 2), (60, .if_icmp .lt (23), 3), (63, .aload_n 0, 1), (64, .getfield 18, 3), (67, .iload_n 1, 1), (68, .invokestatic 111, 3), (71, .iload 4, 2), (73, .iadd, 1), (74, .bipush (99), 2), (76, .if_icmp .gt (7), 3), (79, .iconst 1, 1), (80, .goto (4), 3), (83, .iconst 0, 1), (84, .istore 5, 2), (86, .iload 5, 2), (88, .ifCond .eq (19), 3), (91, .aload_n 0, 1), (92, .getfield 33, 3), (95, .iload_n 3, 1), (96, .invokestatic 111, 3), (99, .iload_n 2, 1), (100, .if_icmp .eq (7), 3), (103, .iconst 0, 1), (104, .goto (5), 3), (107, .bipush (-3), 2), (109, .ireturn, 1)]
set_option maxRecDepth 200000 in
theorem hs_whyNotSell_code_ok : px_code prog_5_method_31_code hs_whyNotSell_code = true := by decide +kernel
noncomputable def hs_whyNotSell_orc : pC := px_orc [(158, fun a h => match a with
    | [.inr (.inl v0), .inl v1] => wu_at v0 v1 h
    | _ => none), (40, fun a h => match a with
    | [.inr (.inl 3), .inl v1, .inl v2] => hs_areTwo v1 v2 h
    | _ => none), (39, fun a h => match a with
    | [.inr (.inl 3), .inl v1, .inl v2] => hs_mayKeepBack v1 v2 h
    | _ => none), (41, fun a h => match a with
    | [.inr (.inl 3), .inl v1, .inl v2] => hs_areTogether v1 v2 h
    | _ => none), (48, fun a h => match a with
    | [.inr (.inl 3), .inl v1] => hs_price v1 h
    | _ => none)]
theorem hs_whyNotSell_orc_ok {d : Nat} : px_Or (d + 3) (hs_whyNotSell_orc) := px_orc_ok (by
  refine px_o1 (fun a h q e => by
    dsimp only at e
    split at e
    · exact wu_at_ok (d := d + 2) e
    · cases e) ?_
  refine px_o1 (fun a h q e => by
    dsimp only at e
    split at e
    · exact hs_areTwo_ok (d := d + 1) e
    · cases e) ?_
  refine px_o1 (fun a h q e => by
    dsimp only at e
    split at e
    · exact hs_mayKeepBack_ok (d := d + 0) e
    · cases e) ?_
  refine px_o1 (fun a h q e => by
    dsimp only at e
    split at e
    · exact hs_areTogether_ok (d := d + 1) e
    · cases e) ?_
  refine px_o1 (fun a h q e => by
    dsimp only at e
    split at e
    · exact hs_price_ok (d := d + 1) e
    · cases e) ?_
  exact px_o0)
set_option maxRecDepth 200000 in
theorem hs_whyNotSell_29_ok {d : Nat} : ∀ (h : pH) (q : Int32 × pH), hs_whyNotSell_29 h = some q → px_G (d + 3 + 1) (pX_RX3, prog_5_method_31_code, 6, (some .int)) 29 [none, none, none, none, none, none] [] h q := by
  intro h q e
  exact px_blk_ok (d := d + 3) (M := (pX_RX3, prog_5_method_31_code, 6, (some .int))) (C := hs_whyNotSell_orc) (code := hs_whyNotSell_code) (ld := []) (kl := []) (hs_whyNotSell_orc_ok) pX_ok_RX3 hs_whyNotSell_code_ok (px_k0) 63 29 _ _ h q e
set_option maxRecDepth 200000 in
theorem hs_whyNotSell_109_ok {d : Nat} : ∀ (s0 : Int32) (h : pH) (q : Int32 × pH), hs_whyNotSell_109 s0 h = some q → px_G (d + 3 + 1) (pX_RX3, prog_5_method_31_code, 6, (some .int)) 109 [none, none, none, none, none, none] [.inl s0] h q := by
  intro s0 h q e
  exact px_blk_ok (d := d + 3) (M := (pX_RX3, prog_5_method_31_code, 6, (some .int))) (C := hs_whyNotSell_orc) (code := hs_whyNotSell_code) (ld := []) (kl := []) (hs_whyNotSell_orc_ok) pX_ok_RX3 hs_whyNotSell_code_ok (px_k0) 63 109 _ _ h q e
set_option maxRecDepth 200000 in
theorem hs_whyNotSell_107_ok {d : Nat} : ∀ (h : pH) (q : Int32 × pH), hs_whyNotSell_107 h = some q → px_G (d + 3 + 1) (pX_RX3, prog_5_method_31_code, 6, (some .int)) 107 [none, none, none, none, none, none] [] h q := by
  intro h q e
  exact px_blk_ok (d := d + 3) (M := (pX_RX3, prog_5_method_31_code, 6, (some .int))) (C := hs_whyNotSell_orc) (code := hs_whyNotSell_code) (ld := [109]) (kl := [(109, fun ls st h => px_if (px_fit [0, 0, 0, 0, 0, 0] ls && px_fits [1] st) (hs_whyNotSell_109 (px_si st 0) h))]) (hs_whyNotSell_orc_ok) pX_ok_RX3 hs_whyNotSell_code_ok (px_k1 (px_ko (ts := [0, 0, 0, 0, 0, 0]) (ss := [1]) fun ls st h q e => hs_whyNotSell_109_ok _ _ _ e) px_k0) 63 107 _ _ h q e
set_option maxRecDepth 200000 in
theorem hs_whyNotSell_84_ok {d : Nat} : ∀ (x2 : Int32) (x3 : Int32) (s0 : Int32) (h : pH) (q : Int32 × pH), hs_whyNotSell_84 x2 x3 s0 h = some q → px_G (d + 3 + 1) (pX_RX3, prog_5_method_31_code, 6, (some .int)) 84 [some (.inr (.inl 3)), none, some (.inl x2), some (.inl x3), none, none] [.inl s0] h q := by
  intro x2 x3 s0 h q e
  exact px_blk_ok (d := d + 3) (M := (pX_RX3, prog_5_method_31_code, 6, (some .int))) (C := hs_whyNotSell_orc) (code := hs_whyNotSell_code) (ld := [107, 109]) (kl := [(107, fun ls st h => px_if (px_fit [0, 0, 0, 0, 0, 0] ls && px_fits [] st) (hs_whyNotSell_107 h)), (109, fun ls st h => px_if (px_fit [0, 0, 0, 0, 0, 0] ls && px_fits [1] st) (hs_whyNotSell_109 (px_si st 0) h))]) (hs_whyNotSell_orc_ok) pX_ok_RX3 hs_whyNotSell_code_ok (px_k1 (px_ko (ts := [0, 0, 0, 0, 0, 0]) (ss := []) fun ls st h q e => hs_whyNotSell_107_ok _ _ e) (px_k1 (px_ko (ts := [0, 0, 0, 0, 0, 0]) (ss := [1]) fun ls st h q e => hs_whyNotSell_109_ok _ _ _ e) px_k0)) 63 84 _ _ h q e
set_option maxRecDepth 200000 in
theorem hs_whyNotSell_83_ok {d : Nat} : ∀ (x2 : Int32) (x3 : Int32) (h : pH) (q : Int32 × pH), hs_whyNotSell_83 x2 x3 h = some q → px_G (d + 3 + 1) (pX_RX3, prog_5_method_31_code, 6, (some .int)) 83 [some (.inr (.inl 3)), none, some (.inl x2), some (.inl x3), none, none] [] h q := by
  intro x2 x3 h q e
  exact px_blk_ok (d := d + 3) (M := (pX_RX3, prog_5_method_31_code, 6, (some .int))) (C := hs_whyNotSell_orc) (code := hs_whyNotSell_code) (ld := [84]) (kl := [(84, fun ls st h => px_if (px_fit [13, 0, 1, 1, 0, 0] ls && px_fits [1] st) (hs_whyNotSell_84 (px_gi ls 2) (px_gi ls 3) (px_si st 0) h))]) (hs_whyNotSell_orc_ok) pX_ok_RX3 hs_whyNotSell_code_ok (px_k1 (px_ko (ts := [13, 0, 1, 1, 0, 0]) (ss := [1]) fun ls st h q e => hs_whyNotSell_84_ok _ _ _ _ _ e) px_k0) 63 83 _ _ h q e
set_option maxRecDepth 200000 in
theorem hs_whyNotSell_ok {d : Nat} {x1 : Int32} {x2 : Int32} {x3 : Int32} {h : pH} {q : Int32 × pH} (e : hs_whyNotSell x1 x2 x3 h = some q) : px_Con (d + 4) 49 [.inr (.inl 3), .inl x1, .inl x2, .inl x3] h q :=
  px_con (X := pX_RX3) (b := prog_5_method_31_code) (nL := 6) (rt := (some .int)) rfl rfl (Nat.le_of_ble_eq_true rfl) rfl (px_blk_ok (d := d + 3) (M := (pX_RX3, prog_5_method_31_code, 6, (some .int))) (C := hs_whyNotSell_orc) (code := hs_whyNotSell_code) (ld := [83, 84, 29]) (kl := [(83, fun ls st h => px_if (px_fit [13, 0, 1, 1, 0, 0] ls && px_fits [] st) (hs_whyNotSell_83 (px_gi ls 2) (px_gi ls 3) h)), (84, fun ls st h => px_if (px_fit [13, 0, 1, 1, 0, 0] ls && px_fits [1] st) (hs_whyNotSell_84 (px_gi ls 2) (px_gi ls 3) (px_si st 0) h)), (29, fun ls st h => px_if (px_fit [0, 0, 0, 0, 0, 0] ls && px_fits [] st) (hs_whyNotSell_29 h))]) (hs_whyNotSell_orc_ok) pX_ok_RX3 hs_whyNotSell_code_ok (px_k1 (px_ko (ts := [13, 0, 1, 1, 0, 0]) (ss := []) fun ls st h q e => hs_whyNotSell_83_ok _ _ _ _ e) (px_k1 (px_ko (ts := [13, 0, 1, 1, 0, 0]) (ss := [1]) fun ls st h q e => hs_whyNotSell_84_ok _ _ _ _ _ e) (px_k1 (px_ko (ts := [0, 0, 0, 0, 0, 0]) (ss := []) fun ls st h q e => hs_whyNotSell_29_ok _ _ e) px_k0))) 63 0 _ _ _ q e)
/-! WordsUnsaid$House.trade(III)I -/
noncomputable def hs_trade (x1 : Int32) (x2 : Int32) (x3 : Int32) (h : pH) : pR :=
  px_bind (hs_whyNotSell x1 x2 x3 h) fun z1 h2 =>
  if 0 ≤ z1 then
    px_bind (hs_price x3 h2) fun z3 h4 =>
    px_bind (wu_at 6 x1 h4) fun z5 h6 =>
    px_bind (wu_put 6 x1 (z5 + z3) h6) fun _ h8 =>
    px_bind (wu_at 6 x2 h8) fun z9 h10 =>
    px_bind (wu_put 6 x2 (z9 - z3) h10) fun _ h12 =>
    px_bind (wu_put 10 x3 x2 h12) fun _ h14 =>
    px_bind (wu_at 13 x3 h14) fun z15 h16 =>
    px_bind (wu_put 13 x3 (z15 ||| ((px_c 1) <<< (x2 &&& 31))) h16) fun _ h18 =>
    some (z3, h18)
  else
    some (z1, h2)
def hs_trade_code : pCode := [(0, .aload_n 0, 1), (1, .iload_n 1, 1), (2, .iload_n 2, 1), (3, .iload_n 3, 1), (4, .invokevirtual 169, 3), (7, .istore 4, 2), (9, .iload 4, 2), (11, .ifCond .ge (6), 3), (14, .iload 4, 2), (16, .ireturn, 1), (17, .aload_n 0, 1), (18, .iload_n 3, 1), (19, .invokevirtual 166, 3), (22, .istore 5, 2), (24, .aload_n 0, 1), (25, .getfield 18, 3), (28, .iload_n 1, 1), (29, .aload_n 0, 1), (30, .getfield 18, 3), (33, .iload_n 1, 1), (34, .invokestatic 111, 3), (37, .iload 5, 2), (39, .iadd, 1), (40, .invokestatic 97, 3), (43, .aload_n 0, 1), (44, .getfield 18, 3), (47, .iload_n 2, 1), (48, .aload_n 0, 1), (49, .getfield 18, 3), (52, .iload_n 2, 1), (53, .invokestatic 111, 3), (56, .iload 5, 2), (58, .isub, 1), (59, .invokestatic 97, 3), (62, .aload_n 0, 1), (63, .getfield 30, 3), (66, .iload_n 3, 1), (67, .iload_n 2, 1), (68, .invokestatic 97, 3), (71, .aload_n 0, 1), (72, .getfield 39, 3), (75, .iload_n 3, 1), (76, .aload_n 0, 1), (77, .getfield 39, 3), (80, .iload_n 3, 1), (81, .invokestatic 111, 3), (84, .iconst 1, 1), (85, .iload_n 2, 1), (86, .ishl, 1), (87, .ior, 1), (88, .invokestatic 97, 3), (91, .iload 5, 2), (93, .ireturn, 1)]
set_option maxRecDepth 200000 in
theorem hs_trade_code_ok : px_code prog_5_method_32_code hs_trade_code = true := by decide +kernel
noncomputable def hs_trade_orc : pC := px_orc [(49, fun a h => match a with
    | [.inr (.inl 3), .inl v1, .inl v2, .inl v3] => hs_whyNotSell v1 v2 v3 h
    | _ => none), (48, fun a h => match a with
    | [.inr (.inl 3), .inl v1] => hs_price v1 h
    | _ => none), (158, fun a h => match a with
    | [.inr (.inl v0), .inl v1] => wu_at v0 v1 h
    | _ => none), (159, fun a h => match a with
    | [.inr (.inl v0), .inl v1, .inl v2] => wu_put v0 v1 v2 h
    | _ => none)]
theorem hs_trade_orc_ok {d : Nat} : px_Or (d + 4) (hs_trade_orc) := px_orc_ok (by
  refine px_o1 (fun a h q e => by
    dsimp only at e
    split at e
    · exact hs_whyNotSell_ok (d := d + 0) e
    · cases e) ?_
  refine px_o1 (fun a h q e => by
    dsimp only at e
    split at e
    · exact hs_price_ok (d := d + 2) e
    · cases e) ?_
  refine px_o1 (fun a h q e => by
    dsimp only at e
    split at e
    · exact wu_at_ok (d := d + 3) e
    · cases e) ?_
  refine px_o1 (fun a h q e => by
    dsimp only at e
    split at e
    · exact wu_put_ok (d := d + 3) e
    · cases e) ?_
  exact px_o0)
set_option maxRecDepth 200000 in
theorem hs_trade_ok {d : Nat} {x1 : Int32} {x2 : Int32} {x3 : Int32} {h : pH} {q : Int32 × pH} (e : hs_trade x1 x2 x3 h = some q) : px_Con (d + 5) 50 [.inr (.inl 3), .inl x1, .inl x2, .inl x3] h q :=
  px_con (X := pX_RX3) (b := prog_5_method_32_code) (nL := 6) (rt := (some .int)) rfl rfl (Nat.le_of_ble_eq_true rfl) rfl (px_blk_ok (d := d + 4) (M := (pX_RX3, prog_5_method_32_code, 6, (some .int))) (C := hs_trade_orc) (code := hs_trade_code) (ld := []) (kl := []) (hs_trade_orc_ok) pX_ok_RX3 hs_trade_code_ok (px_k0) 58 0 _ _ _ q e)
/-! WordsUnsaid$House.save([II)V -/
noncomputable def hs_save_58 : Nat → Nat → Int32 → Int32 → pH → pR
  | 0, _, _, _, _ => none
  | n + 1, a1, x3, x4, h =>
    if (px_c 10) ≤ x4 then
      some (0, h)
    else
      px_bind (wu_at 8 x4 h) fun z1 h2 =>
      px_bind (wu_put a1 (x3 + ((px_c 4) * x4)) z1 h2) fun _ h4 =>
      px_bind (wu_at 12 x4 h4) fun z5 h6 =>
      px_bind (wu_put a1 ((x3 + ((px_c 4) * x4)) + (px_c 1)) z5 h6) fun _ h8 =>
      px_bind (wu_at 10 x4 h8) fun z9 h10 =>
      px_bind (wu_put a1 ((x3 + ((px_c 4) * x4)) + (px_c 2)) z9 h10) fun _ h12 =>
      px_bind (wu_at 13 x4 h12) fun z13 h14 =>
      px_bind (wu_put a1 ((x3 + ((px_c 4) * x4)) + (px_c 3)) z13 h14) fun _ h16 =>
      hs_save_58 n a1 x3 (x4 + px_c 1) h16
noncomputable def hs_save_2 : Nat → Nat → Int32 → Int32 → pH → pR
  | 0, _, _, _, _ => none
  | n + 1, a1, x2, x3, h =>
    if (px_c 6) ≤ x3 then
      let y3_1 := x2 + (px_c 12)
      hs_save_58 px_F a1 y3_1 (px_c 0) h
    else
      px_bind (wu_at 5 x3 h) fun z2 h3 =>
      px_bind (wu_put a1 (x2 + ((px_c 2) * x3)) z2 h3) fun _ h5 =>
      px_bind (wu_at 6 x3 h5) fun z6 h7 =>
      px_bind (wu_put a1 ((x2 + ((px_c 2) * x3)) + (px_c 1)) z6 h7) fun _ h9 =>
      hs_save_2 n a1 x2 (x3 + px_c 1) h9
noncomputable def hs_save (a1 : Nat) (x2 : Int32) (h : pH) : pR :=
  hs_save_2 px_F a1 x2 (px_c 0) h
def hs_save_code : pCode := [(0, .iconst 0, 1), (1, .istore_n 3, 1), (2, .iload_n 3, 1), (3, .bipush (6), 2), (5, .if_icmp .ge (45), 3), (8, .aload_n 1, 1), (9, .iload_n 2, 1), (10, .iconst 2, 1), (11, .iload_n 3, 1), (12, .imul, 1), (13, .iadd, 1), (14, .aload_n 0, 1), (15, .getfield 15, 3), (18, .iload_n 3, 1), (19, .invokestatic 111, 3), (22, .invokestatic 97, 3), (25, .aload_n 1, 1), (26, .iload_n 2, 1), (27, .iconst 2, 1), (28, .iload_n 3, 1), (29, .imul, 1), (30, .iadd, 1), (31, .iconst 1, 1), (32, .iadd, 1), (33, .aload_n 0, 1), (34, .getfield 18, 3), (37, .iload_n 3, 1), (38, .invokestatic 111, 3), (41, .invokestatic 97, 3), (44, .iinc 3 (1), 3), (47, .goto (-45), 3), (50, .iload_n 2, 1), (51, .bipush (12), 2), (53, .iadd, 1), (54, .istore_n 3, 1), (55, .iconst 0, 1), (56, .istore 4, 2), (58, .iload 4, 2), (60, .bipush (10), 2), (62, .if_icmp .ge (91), 3), (65, .aload_n 1, 1), (66, .iload_n 3, 1), (67, .iconst 4, 1), (68, .iload 4, 2), (70, .imul, 1), (71, .iadd, 1), (72, .aload_n 0, 1), (73, .getfield 24, 3), (76, .iload 4, 2), (78, .invokestatic 111, 3), (81, .invokestatic 97, 3), (84, .aload_n 1, 1), (85, .iload_n 3, 1), (86, .iconst 4, 1), (87, .iload 4, 2), (89, .imul, 1), (90, .iadd, 1), (91, .iconst 1, 1), (92, .iadd, 1), (93, .aload_n 0, 1), (94, .getfield 36, 3), (97, .iload 4, 2), (99, .invokestatic 111, 3), (102, .invokestatic 97, 3), (105, .aload_n 1, 1), (106, .iload_n 3, 1), (107, .iconst 4, 1), (108, .iload 4, 2), (110, .imul, 1), (111, .iadd, 1), (112, .iconst 2, 1), (113, .iadd, 1), (114, .aload_n 0, 1), (115, .getfield 30, 3), (118, .iload 4, 2), (120, .invokestatic 111, 3), (123, .invokestatic 97, 3), (126, .aload_n 1, 1), (127, .iload_n 3, 1), (128, .iconst 4, 1), (129, .iload 4, 2), (131, .imul, 1), (132, .iadd, 1), (133, .iconst 3, 1), (134, .iadd, 1), (135, .aload_n 0, 1), (136, .getfield 39, 3), (139, .iload 4, 2), (141, .invokestatic 111, 3), (144, .invokestatic 97, 3), (147, .iinc 4 (1), 3), (150, .goto (-92), 3), (153, .return_, 1)]
set_option maxRecDepth 200000 in
theorem hs_save_code_ok : px_code prog_5_method_33_code hs_save_code = true := by decide +kernel
noncomputable def hs_save_orc : pC := px_orc [(158, fun a h => match a with
    | [.inr (.inl v0), .inl v1] => wu_at v0 v1 h
    | _ => none), (159, fun a h => match a with
    | [.inr (.inl v0), .inl v1, .inl v2] => wu_put v0 v1 v2 h
    | _ => none)]
theorem hs_save_orc_ok {d : Nat} : px_Or (d + 1) (hs_save_orc) := px_orc_ok (by
  refine px_o1 (fun a h q e => by
    dsimp only at e
    split at e
    · exact wu_at_ok (d := d + 0) e
    · cases e) ?_
  refine px_o1 (fun a h q e => by
    dsimp only at e
    split at e
    · exact wu_put_ok (d := d + 0) e
    · cases e) ?_
  exact px_o0)
set_option maxRecDepth 200000 in
theorem hs_save_58_ok {d : Nat} : ∀ (n : Nat) (a1 : Nat) (x3 : Int32) (x4 : Int32) (h : pH) (q : Int32 × pH), hs_save_58 n a1 x3 x4 h = some q → px_G (d + 1 + 1) (pX_RX3, prog_5_method_33_code, 5, none) 58 [some (.inr (.inl 3)), some (.inr (.inl a1)), none, some (.inl x3), some (.inl x4)] [] h q := by
  intro n
  induction n with
  | zero =>
    intro a1 x3 x4 h q e
    cases e
  | succ n ih =>
    intro a1 x3 x4 h q e
    exact px_blk_ok (d := d + 1) (M := (pX_RX3, prog_5_method_33_code, 5, none)) (C := hs_save_orc) (code := hs_save_code) (ld := [58]) (kl := [(58, fun ls st h => px_if (px_fit [13, 2, 0, 1, 1] ls && px_fits [] st) (hs_save_58 n (px_gr ls 1) (px_gi ls 3) (px_gi ls 4) h))]) (hs_save_orc_ok) pX_ok_RX3 hs_save_code_ok (px_k1 (px_ko (ts := [13, 2, 0, 1, 1]) (ss := []) fun ls st h q e => ih _ _ _ _ _ e) px_k0) 98 58 _ _ h q e
set_option maxRecDepth 200000 in
theorem hs_save_2_ok {d : Nat} : ∀ (n : Nat) (a1 : Nat) (x2 : Int32) (x3 : Int32) (h : pH) (q : Int32 × pH), hs_save_2 n a1 x2 x3 h = some q → px_G (d + 1 + 1) (pX_RX3, prog_5_method_33_code, 5, none) 2 [some (.inr (.inl 3)), some (.inr (.inl a1)), some (.inl x2), some (.inl x3), none] [] h q := by
  intro n
  induction n with
  | zero =>
    intro a1 x2 x3 h q e
    cases e
  | succ n ih =>
    intro a1 x2 x3 h q e
    exact px_blk_ok (d := d + 1) (M := (pX_RX3, prog_5_method_33_code, 5, none)) (C := hs_save_orc) (code := hs_save_code) (ld := [2, 58]) (kl := [(2, fun ls st h => px_if (px_fit [13, 2, 1, 1, 0] ls && px_fits [] st) (hs_save_2 n (px_gr ls 1) (px_gi ls 2) (px_gi ls 3) h)), (58, fun ls st h => px_if (px_fit [13, 2, 0, 1, 1] ls && px_fits [] st) (hs_save_58 px_F (px_gr ls 1) (px_gi ls 3) (px_gi ls 4) h))]) (hs_save_orc_ok) pX_ok_RX3 hs_save_code_ok (px_k1 (px_ko (ts := [13, 2, 1, 1, 0]) (ss := []) fun ls st h q e => ih _ _ _ _ _ e) (px_k1 (px_ko (ts := [13, 2, 0, 1, 1]) (ss := []) fun ls st h q e => hs_save_58_ok _ _ _ _ _ _ e) px_k0)) 98 2 _ _ h q e
set_option maxRecDepth 200000 in
theorem hs_save_ok {d : Nat} {a1 : Nat} {x2 : Int32} {h : pH} {q : Int32 × pH} (e : hs_save a1 x2 h = some q) : px_Con (d + 2) 51 [.inr (.inl 3), .inr (.inl a1), .inl x2] h q :=
  px_con (X := pX_RX3) (b := prog_5_method_33_code) (nL := 5) (rt := none) rfl rfl (Nat.le_of_ble_eq_true rfl) rfl (px_blk_ok (d := d + 1) (M := (pX_RX3, prog_5_method_33_code, 5, none)) (C := hs_save_orc) (code := hs_save_code) (ld := [2]) (kl := [(2, fun ls st h => px_if (px_fit [13, 2, 1, 1, 0] ls && px_fits [] st) (hs_save_2 px_F (px_gr ls 1) (px_gi ls 2) (px_gi ls 3) h))]) (hs_save_orc_ok) pX_ok_RX3 hs_save_code_ok (px_k1 (px_ko (ts := [13, 2, 1, 1, 0]) (ss := []) fun ls st h q e => hs_save_2_ok _ _ _ _ _ _ e) px_k0) 98 0 _ _ _ q e)
/-! WordsUnsaid$House.load([II)V -/
noncomputable def hs_load_58 : Nat → Nat → Int32 → Int32 → pH → pR
  | 0, _, _, _, _ => none
  | n + 1, a1, x3, x4, h =>
    if (px_c 10) ≤ x4 then
      some (0, h)
    else
      px_bind (wu_at a1 (x3 + ((px_c 4) * x4)) h) fun z1 h2 =>
      px_bind (wu_put 8 x4 z1 h2) fun _ h4 =>
      px_bind (wu_at a1 ((x3 + ((px_c 4) * x4)) + (px_c 1)) h4) fun z5 h6 =>
      px_bind (wu_put 12 x4 z5 h6) fun _ h8 =>
      px_bind (wu_at a1 ((x3 + ((px_c 4) * x4)) + (px_c 2)) h8) fun z9 h10 =>
      px_bind (wu_put 10 x4 z9 h10) fun _ h12 =>
      px_bind (wu_at a1 ((x3 + ((px_c 4) * x4)) + (px_c 3)) h12) fun z13 h14 =>
      px_bind (wu_put 13 x4 z13 h14) fun _ h16 =>
      hs_load_58 n a1 x3 (x4 + px_c 1) h16
noncomputable def hs_load_2 : Nat → Nat → Int32 → Int32 → pH → pR
  | 0, _, _, _, _ => none
  | n + 1, a1, x2, x3, h =>
    if (px_c 6) ≤ x3 then
      let y3_1 := x2 + (px_c 12)
      hs_load_58 px_F a1 y3_1 (px_c 0) h
    else
      px_bind (wu_at a1 (x2 + ((px_c 2) * x3)) h) fun z2 h3 =>
      px_bind (wu_put 5 x3 z2 h3) fun _ h5 =>
      px_bind (wu_at a1 ((x2 + ((px_c 2) * x3)) + (px_c 1)) h5) fun z6 h7 =>
      px_bind (wu_put 6 x3 z6 h7) fun _ h9 =>
      hs_load_2 n a1 x2 (x3 + px_c 1) h9
noncomputable def hs_load (a1 : Nat) (x2 : Int32) (h : pH) : pR :=
  hs_load_2 px_F a1 x2 (px_c 0) h
def hs_load_code : pCode := [(0, .iconst 0, 1), (1, .istore_n 3, 1), (2, .iload_n 3, 1), (3, .bipush (6), 2), (5, .if_icmp .ge (45), 3), (8, .aload_n 0, 1), (9, .getfield 15, 3), (12, .iload_n 3, 1), (13, .aload_n 1, 1), (14, .iload_n 2, 1), (15, .iconst 2, 1), (16, .iload_n 3, 1), (17, .imul, 1), (18, .iadd, 1), (19, .invokestatic 111, 3), (22, .invokestatic 97, 3), (25, .aload_n 0, 1), (26, .getfield 18, 3), (29, .iload_n 3, 1), (30, .aload_n 1, 1), (31, .iload_n 2, 1), (32, .iconst 2, 1), (33, .iload_n 3, 1), (34, .imul, 1), (35, .iadd, 1), (36, .iconst 1, 1), (37, .iadd, 1), (38, .invokestatic 111, 3), (41, .invokestatic 97, 3), (44, .iinc 3 (1), 3), (47, .goto (-45), 3), (50, .iload_n 2, 1), (51, .bipush (12), 2), (53, .iadd, 1), (54, .istore_n 3, 1), (55, .iconst 0, 1), (56, .istore 4, 2), (58, .iload 4, 2), (60, .bipush (10), 2), (62, .if_icmp .ge (91), 3), (65, .aload_n 0, 1), (66, .getfield 24, 3), (69, .iload 4, 2), (71, .aload_n 1, 1), (72, .iload_n 3, 1), (73, .iconst 4, 1), (74, .iload 4, 2), (76, .imul, 1), (77, .iadd, 1), (78, .invokestatic 111, 3), (81, .invokestatic 97, 3), (84, .aload_n 0, 1), (85, .getfield 36, 3), (88, .iload 4, 2), (90, .aload_n 1, 1), (91, .iload_n 3, 1), (92, .iconst 4, 1), (93, .iload 4, 2), (95, .imul, 1), (96, .iadd, 1), (97, .iconst 1, 1), (98, .iadd, 1), (99, .invokestatic 111, 3), (102, .invokestatic 97, 3), (105, .aload_n 0, 1), (106, .getfield 30, 3), (109, .iload 4, 2), (111, .aload_n 1, 1), (112, .iload_n 3, 1), (113, .iconst 4, 1), (114, .iload 4, 2), (116, .imul, 1), (117, .iadd, 1), (118, .iconst 2, 1), (119, .iadd, 1), (120, .invokestatic 111, 3), (123, .invokestatic 97, 3), (126, .aload_n 0, 1), (127, .getfield 39, 3), (130, .iload 4, 2), (132, .aload_n 1, 1), (133, .iload_n 3, 1), (134, .iconst 4, 1), (135, .iload 4, 2), (137, .imul, 1), (138, .iadd, 1), (139, .iconst 3, 1), (140, .iadd, 1), (141, .invokestatic 111, 3), (144, .invokestatic 97, 3), (147, .iinc 4 (1), 3), (150, .goto (-92), 3), (153, .return_, 1)]
set_option maxRecDepth 200000 in
theorem hs_load_code_ok : px_code prog_5_method_34_code hs_load_code = true := by decide +kernel
noncomputable def hs_load_orc : pC := px_orc [(158, fun a h => match a with
    | [.inr (.inl v0), .inl v1] => wu_at v0 v1 h
    | _ => none), (159, fun a h => match a with
    | [.inr (.inl v0), .inl v1, .inl v2] => wu_put v0 v1 v2 h
    | _ => none)]
theorem hs_load_orc_ok {d : Nat} : px_Or (d + 1) (hs_load_orc) := px_orc_ok (by
  refine px_o1 (fun a h q e => by
    dsimp only at e
    split at e
    · exact wu_at_ok (d := d + 0) e
    · cases e) ?_
  refine px_o1 (fun a h q e => by
    dsimp only at e
    split at e
    · exact wu_put_ok (d := d + 0) e
    · cases e) ?_
  exact px_o0)
set_option maxRecDepth 200000 in
theorem hs_load_58_ok {d : Nat} : ∀ (n : Nat) (a1 : Nat) (x3 : Int32) (x4 : Int32) (h : pH) (q : Int32 × pH), hs_load_58 n a1 x3 x4 h = some q → px_G (d + 1 + 1) (pX_RX3, prog_5_method_34_code, 5, none) 58 [some (.inr (.inl 3)), some (.inr (.inl a1)), none, some (.inl x3), some (.inl x4)] [] h q := by
  intro n
  induction n with
  | zero =>
    intro a1 x3 x4 h q e
    cases e
  | succ n ih =>
    intro a1 x3 x4 h q e
    exact px_blk_ok (d := d + 1) (M := (pX_RX3, prog_5_method_34_code, 5, none)) (C := hs_load_orc) (code := hs_load_code) (ld := [58]) (kl := [(58, fun ls st h => px_if (px_fit [13, 2, 0, 1, 1] ls && px_fits [] st) (hs_load_58 n (px_gr ls 1) (px_gi ls 3) (px_gi ls 4) h))]) (hs_load_orc_ok) pX_ok_RX3 hs_load_code_ok (px_k1 (px_ko (ts := [13, 2, 0, 1, 1]) (ss := []) fun ls st h q e => ih _ _ _ _ _ e) px_k0) 98 58 _ _ h q e
set_option maxRecDepth 200000 in
theorem hs_load_2_ok {d : Nat} : ∀ (n : Nat) (a1 : Nat) (x2 : Int32) (x3 : Int32) (h : pH) (q : Int32 × pH), hs_load_2 n a1 x2 x3 h = some q → px_G (d + 1 + 1) (pX_RX3, prog_5_method_34_code, 5, none) 2 [some (.inr (.inl 3)), some (.inr (.inl a1)), some (.inl x2), some (.inl x3), none] [] h q := by
  intro n
  induction n with
  | zero =>
    intro a1 x2 x3 h q e
    cases e
  | succ n ih =>
    intro a1 x2 x3 h q e
    exact px_blk_ok (d := d + 1) (M := (pX_RX3, prog_5_method_34_code, 5, none)) (C := hs_load_orc) (code := hs_load_code) (ld := [2, 58]) (kl := [(2, fun ls st h => px_if (px_fit [13, 2, 1, 1, 0] ls && px_fits [] st) (hs_load_2 n (px_gr ls 1) (px_gi ls 2) (px_gi ls 3) h)), (58, fun ls st h => px_if (px_fit [13, 2, 0, 1, 1] ls && px_fits [] st) (hs_load_58 px_F (px_gr ls 1) (px_gi ls 3) (px_gi ls 4) h))]) (hs_load_orc_ok) pX_ok_RX3 hs_load_code_ok (px_k1 (px_ko (ts := [13, 2, 1, 1, 0]) (ss := []) fun ls st h q e => ih _ _ _ _ _ e) (px_k1 (px_ko (ts := [13, 2, 0, 1, 1]) (ss := []) fun ls st h q e => hs_load_58_ok _ _ _ _ _ _ e) px_k0)) 98 2 _ _ h q e
set_option maxRecDepth 200000 in
theorem hs_load_ok {d : Nat} {a1 : Nat} {x2 : Int32} {h : pH} {q : Int32 × pH} (e : hs_load a1 x2 h = some q) : px_Con (d + 2) 52 [.inr (.inl 3), .inr (.inl a1), .inl x2] h q :=
  px_con (X := pX_RX3) (b := prog_5_method_34_code) (nL := 5) (rt := none) rfl rfl (Nat.le_of_ble_eq_true rfl) rfl (px_blk_ok (d := d + 1) (M := (pX_RX3, prog_5_method_34_code, 5, none)) (C := hs_load_orc) (code := hs_load_code) (ld := [2]) (kl := [(2, fun ls st h => px_if (px_fit [13, 2, 1, 1, 0] ls && px_fits [] st) (hs_load_2 px_F (px_gr ls 1) (px_gi ls 2) (px_gi ls 3) h))]) (hs_load_orc_ok) pX_ok_RX3 hs_load_code_ok (px_k1 (px_ko (ts := [13, 2, 1, 1, 0]) (ss := []) fun ls st h q e => hs_load_2_ok _ _ _ _ _ _ e) px_k0) 98 0 _ _ _ q e)
/-! WordsUnsaid$River.read(LWordsUnsaid$Text;)I -/
noncomputable def rv_read_110 : Nat → Int32 → Int32 → pH → pR
  | 0, _, _, _ => none
  | n + 1, x3, x5, h =>
    if x3 ≤ x5 then
      some (x3, h)
    else
      px_bind (wu_at 16 x5 h) fun z1 h2 =>
      px_bind (wu_put 15 x5 z1 h2) fun _ h4 =>
      rv_read_110 n x3 (x5 + px_c 1) h4
noncomputable def rv_read_85 (x2 : Int32) (x3 : Int32) (h : pH) : pR :=
  px_bind (tx_closes h) fun z1 h2 =>
  if z1 = 0 then
    px_bind (tx_answer h2) fun z3 h4 =>
    some (z3, h4)
  else
    let h5 := px_w h2 14 3 x2
    let h6 := px_w h5 14 2 x3
    rv_read_110 px_F x3 (px_c 0) h6
noncomputable def rv_read_30 : Nat → Int32 → Int32 → Int32 → pH → pR
  | 0, _, _, _, _ => none
  | n + 1, x2, x3, x4, h =>
    if (px_c 5) ≤ x3 then
      rv_read_85 x2 x3 h
    else
      px_bind (tx_meet (px_c 44) h) fun z1 h2 =>
      if z1 = 0 then
        rv_read_85 x2 x3 h2
      else
        px_bind (tx_number (px_c 2) (x4 + (px_c 1)) (x2 - (px_c 1)) h2) fun z3 h4 =>
        if z3 = (px_c (-1)) then
          px_bind (tx_answer h4) fun z5 h6 =>
          some (z5, h6)
        else
          px_bind (wu_put 16 x3 z3 h4) fun _ h8 =>
          rv_read_30 n x2 (x3 + px_c 1) z3 h8
noncomputable def rv_read (h : pH) : pR :=
  px_bind (tx_open (px_c 80) h) fun _ h2 =>
  px_bind (tx_number (px_c 2) (px_c 2) (px_c 60) h2) fun z3 h4 =>
  if z3 = (px_c (-1)) then
    px_bind (tx_answer h4) fun z5 h6 =>
    some (z5, h6)
  else
    rv_read_30 px_F z3 (px_c 0) (px_c 0) h4
def rv_read_code : pCode := [(0, .aload_n 1, 1), (1, .bipush (80), 2), (3, .invokevirtual 24, 3), (6, .aload_n 1, 1), (7, .iconst 2, 1), (8, .iconst 2, 1), (9, .bipush (60), 2), (11, .invokevirtual 28, 3), (14, .istore_n 2, 1), (15, .iload_n 2, 1), (16, .iconst (-1), 1), (17, .if_icmp .ne (8), 3), (20, .aload_n 1, 1), (21, .invokevirtual 32, 3), (24, .ireturn, 1), (25, .iconst 0, 1), (26, .istore_n 3, 1), (27, .iconst 0, 1), (28, .istore 4, 2), (30, .iload_n 3, 1), (31, .iconst 5, 1), (32, .if_icmp .ge (53), 3), (35, .aload_n 1, 1), (36, .bipush (44), 2), (38, .invokevirtual 36, 3), (41, .ifCond .eq (44), 3), (44, .aload_n 1, 1), (45, .iconst 2, 1), (46, .iload 4, 2), (48, .iconst 1, 1), (49, .iadd, 1), (50, .iload_n 2, 1), (51, .iconst 1, 1), (52, .isub, 1), (53, .invokevirtual 28, 3), (56, .istore 4, 2), (58, .iload 4, 2), (60, .iconst (-1), 1), (61, .if_icmp .ne (8), 3), (64, .aload_n 1, 1), (65, .invokevirtual 32, 3), (68, .ireturn, 1), (69, .aload_n 0, 1), (70, .getfield 15, 3), (73, .iload_n 3, 1), (74, .iload 4, 2), (76, .invokestatic 40, 3), (79, .iinc 3 (1), 3), (82, .goto (-52), 3), (85, .aload_n 1, 1), (86, .invokevirtual 44, 3), (89, .ifCond .ne (8), 3), (92, .aload_n 1, 1), (93, .invokevirtual 32, 3), (96, .ireturn, 1), (97, .aload_n 0, 1), (98, .iload_n 2, 1), (99, .putfield 18, 3), (102, .aload_n 0, 1), (103, .iload_n 3, 1), (104, .putfield 48, 3), (107, .iconst 0, 1), (108, .istore 5, 2), (110, .iload 5, 2), (112, .iload_n 3, 1), (113, .if_icmp .ge (27), 3), (116, .aload_n 0, 1), (117, .getfield 11, 3), (120, .iload 5, 2), (122, .aload_n 0, 1), (123, .getfield 15, 3), (126, .iload 5, 2), (128, .invokestatic 51, 3), (131, .invokestatic 40, 3), (134, .iinc 5 (1), 3), (137, .goto (-27), 3), (140, .iload_n 3, 1), (141, .ireturn, 1)]
set_option maxRecDepth 200000 in
theorem rv_read_code_ok : px_code prog_7_method_2_code rv_read_code = true := by decide +kernel
noncomputable def rv_read_orc : pC := px_orc [(158, fun a h => match a with
    | [.inr (.inl v0), .inl v1] => wu_at v0 v1 h
    | _ => none), (159, fun a h => match a with
    | [.inr (.inl v0), .inl v1, .inl v2] => wu_put v0 v1 v2 h
    | _ => none), (96, fun a h => match a with
    | [.inr (.inl 1)] => tx_closes h
    | _ => none), (95, fun a h => match a with
    | [.inr (.inl 1)] => tx_answer h
    | _ => none), (91, fun a h => match a with
    | [.inr (.inl 1), .inl v1] => tx_meet v1 h
    | _ => none), (98, fun a h => match a with
    | [.inr (.inl 1), .inl v1, .inl v2, .inl v3] => tx_number v1 v2 v3 h
    | _ => none), (88, fun a h => match a with
    | [.inr (.inl 1), .inl v1] => tx_open v1 h
    | _ => none)]
theorem rv_read_orc_ok {d : Nat} : px_Or (d + 3) (rv_read_orc) := px_orc_ok (by
  refine px_o1 (fun a h q e => by
    dsimp only at e
    split at e
    · exact wu_at_ok (d := d + 2) e
    · cases e) ?_
  refine px_o1 (fun a h q e => by
    dsimp only at e
    split at e
    · exact wu_put_ok (d := d + 2) e
    · cases e) ?_
  refine px_o1 (fun a h q e => by
    dsimp only at e
    split at e
    · exact tx_closes_ok (d := d + 1) e
    · cases e) ?_
  refine px_o1 (fun a h q e => by
    dsimp only at e
    split at e
    · exact tx_answer_ok (d := d + 2) e
    · cases e) ?_
  refine px_o1 (fun a h q e => by
    dsimp only at e
    split at e
    · exact tx_meet_ok (d := d + 1) e
    · cases e) ?_
  refine px_o1 (fun a h q e => by
    dsimp only at e
    split at e
    · exact tx_number_ok (d := d + 0) e
    · cases e) ?_
  refine px_o1 (fun a h q e => by
    dsimp only at e
    split at e
    · exact tx_open_ok (d := d + 2) e
    · cases e) ?_
  exact px_o0)
set_option maxRecDepth 200000 in
theorem rv_read_110_ok {d : Nat} : ∀ (n : Nat) (x3 : Int32) (x5 : Int32) (h : pH) (q : Int32 × pH), rv_read_110 n x3 x5 h = some q → px_G (d + 3 + 1) (pX_RX5, prog_7_method_2_code, 6, (some .int)) 110 [some (.inr (.inl 14)), none, none, some (.inl x3), none, some (.inl x5)] [] h q := by
  intro n
  induction n with
  | zero =>
    intro x3 x5 h q e
    cases e
  | succ n ih =>
    intro x3 x5 h q e
    exact px_blk_ok (d := d + 3) (M := (pX_RX5, prog_7_method_2_code, 6, (some .int))) (C := rv_read_orc) (code := rv_read_code) (ld := [110]) (kl := [(110, fun ls st h => px_if (px_fit [24, 0, 0, 1, 0, 1] ls && px_fits [] st) (rv_read_110 n (px_gi ls 3) (px_gi ls 5) h))]) (rv_read_orc_ok) pX_ok_RX5 rv_read_code_ok (px_k1 (px_ko (ts := [24, 0, 0, 1, 0, 1]) (ss := []) fun ls st h q e => ih _ _ _ _ e) px_k0) 83 110 _ _ h q e
set_option maxRecDepth 200000 in
theorem rv_read_85_ok {d : Nat} : ∀ (x2 : Int32) (x3 : Int32) (h : pH) (q : Int32 × pH), rv_read_85 x2 x3 h = some q → px_G (d + 3 + 1) (pX_RX5, prog_7_method_2_code, 6, (some .int)) 85 [some (.inr (.inl 14)), some (.inr (.inl 1)), some (.inl x2), some (.inl x3), none, none] [] h q := by
  intro x2 x3 h q e
  exact px_blk_ok (d := d + 3) (M := (pX_RX5, prog_7_method_2_code, 6, (some .int))) (C := rv_read_orc) (code := rv_read_code) (ld := [110]) (kl := [(110, fun ls st h => px_if (px_fit [24, 0, 0, 1, 0, 1] ls && px_fits [] st) (rv_read_110 px_F (px_gi ls 3) (px_gi ls 5) h))]) (rv_read_orc_ok) pX_ok_RX5 rv_read_code_ok (px_k1 (px_ko (ts := [24, 0, 0, 1, 0, 1]) (ss := []) fun ls st h q e => rv_read_110_ok _ _ _ _ _ e) px_k0) 83 85 _ _ h q e
set_option maxRecDepth 200000 in
theorem rv_read_30_ok {d : Nat} : ∀ (n : Nat) (x2 : Int32) (x3 : Int32) (x4 : Int32) (h : pH) (q : Int32 × pH), rv_read_30 n x2 x3 x4 h = some q → px_G (d + 3 + 1) (pX_RX5, prog_7_method_2_code, 6, (some .int)) 30 [some (.inr (.inl 14)), some (.inr (.inl 1)), some (.inl x2), some (.inl x3), some (.inl x4), none] [] h q := by
  intro n
  induction n with
  | zero =>
    intro x2 x3 x4 h q e
    cases e
  | succ n ih =>
    intro x2 x3 x4 h q e
    exact px_blk_ok (d := d + 3) (M := (pX_RX5, prog_7_method_2_code, 6, (some .int))) (C := rv_read_orc) (code := rv_read_code) (ld := [30, 85]) (kl := [(30, fun ls st h => px_if (px_fit [24, 11, 1, 1, 1, 0] ls && px_fits [] st) (rv_read_30 n (px_gi ls 2) (px_gi ls 3) (px_gi ls 4) h)), (85, fun ls st h => px_if (px_fit [24, 11, 1, 1, 0, 0] ls && px_fits [] st) (rv_read_85 (px_gi ls 2) (px_gi ls 3) h))]) (rv_read_orc_ok) pX_ok_RX5 rv_read_code_ok (px_k1 (px_ko (ts := [24, 11, 1, 1, 1, 0]) (ss := []) fun ls st h q e => ih _ _ _ _ _ e) (px_k1 (px_ko (ts := [24, 11, 1, 1, 0, 0]) (ss := []) fun ls st h q e => rv_read_85_ok _ _ _ _ e) px_k0)) 83 30 _ _ h q e
set_option maxRecDepth 200000 in
theorem rv_read_ok {d : Nat} {h : pH} {q : Int32 × pH} (e : rv_read h = some q) : px_Con (d + 4) 60 [.inr (.inl 14), .inr (.inl 1)] h q :=
  px_con (X := pX_RX5) (b := prog_7_method_2_code) (nL := 6) (rt := (some .int)) rfl rfl (Nat.le_of_ble_eq_true rfl) rfl (px_blk_ok (d := d + 3) (M := (pX_RX5, prog_7_method_2_code, 6, (some .int))) (C := rv_read_orc) (code := rv_read_code) (ld := [30]) (kl := [(30, fun ls st h => px_if (px_fit [24, 11, 1, 1, 1, 0] ls && px_fits [] st) (rv_read_30 px_F (px_gi ls 2) (px_gi ls 3) (px_gi ls 4) h))]) (rv_read_orc_ok) pX_ok_RX5 rv_read_code_ok (px_k1 (px_ko (ts := [24, 11, 1, 1, 1, 0]) (ss := []) fun ls st h q e => rv_read_30_ok _ _ _ _ _ _ e) px_k0) 83 0 _ _ _ q e)
/-! WordsUnsaid$River.hasIslet(I)Z -/
noncomputable def rv_hasIslet_17 (s0 : Int32) (h : pH) : pR :=
  px_bz s0 h
noncomputable def rv_hasIslet_16 (h : pH) : pR :=
  rv_hasIslet_17 (px_c 0) h
noncomputable def rv_hasIslet (x1 : Int32) (h : pH) : pR :=
  if x1 < 0 then
    rv_hasIslet_16 h
  else
    if (h 14 2) ≤ x1 then
      rv_hasIslet_16 h
    else
      rv_hasIslet_17 (px_c 1) h
def rv_hasIslet_code : pCode := [(0, .iload_n 1, 1), (1, .ifCond .lt (15), 3), (4, .iload_n 1, 1), (5, .aload_n 0, 1), (6, .getfield 48, 3), (9, .if_icmp .ge (7), 3), (12, .iconst 1, 1), (13, .goto (4), 3), (16, .iconst 0, 1), (17, .ireturn, 1)]
set_option maxRecDepth 200000 in
theorem rv_hasIslet_code_ok : px_code prog_7_method_3_code rv_hasIslet_code = true := by decide +kernel
noncomputable def rv_hasIslet_orc : pC := px_orc []
theorem rv_hasIslet_orc_ok {d : Nat} : px_Or (d + 0) (rv_hasIslet_orc) := px_orc_ok (by
  exact px_o0)
set_option maxRecDepth 200000 in
theorem rv_hasIslet_17_ok {d : Nat} : ∀ (s0 : Int32) (h : pH) (q : Int32 × pH), rv_hasIslet_17 s0 h = some q → px_G (d + 0 + 1) (pX_RX5, prog_7_method_3_code, 2, (some .boolean)) 17 [none, none] [.inl s0] h q := by
  intro s0 h q e
  exact px_blk_ok (d := d + 0) (M := (pX_RX5, prog_7_method_3_code, 2, (some .boolean))) (C := rv_hasIslet_orc) (code := rv_hasIslet_code) (ld := []) (kl := []) (rv_hasIslet_orc_ok) pX_ok_RX5 rv_hasIslet_code_ok (px_k0) 15 17 _ _ h q e
set_option maxRecDepth 200000 in
theorem rv_hasIslet_16_ok {d : Nat} : ∀ (h : pH) (q : Int32 × pH), rv_hasIslet_16 h = some q → px_G (d + 0 + 1) (pX_RX5, prog_7_method_3_code, 2, (some .boolean)) 16 [none, none] [] h q := by
  intro h q e
  exact px_blk_ok (d := d + 0) (M := (pX_RX5, prog_7_method_3_code, 2, (some .boolean))) (C := rv_hasIslet_orc) (code := rv_hasIslet_code) (ld := [17]) (kl := [(17, fun ls st h => px_if (px_fit [0, 0] ls && px_fits [1] st) (rv_hasIslet_17 (px_si st 0) h))]) (rv_hasIslet_orc_ok) pX_ok_RX5 rv_hasIslet_code_ok (px_k1 (px_ko (ts := [0, 0]) (ss := [1]) fun ls st h q e => rv_hasIslet_17_ok _ _ _ e) px_k0) 15 16 _ _ h q e
set_option maxRecDepth 200000 in
theorem rv_hasIslet_ok {d : Nat} {x1 : Int32} {h : pH} {q : Int32 × pH} (e : rv_hasIslet x1 h = some q) : px_Con (d + 1) 61 [.inr (.inl 14), .inl x1] h q :=
  px_con (X := pX_RX5) (b := prog_7_method_3_code) (nL := 2) (rt := (some .boolean)) rfl rfl (Nat.le_of_ble_eq_true rfl) rfl (px_blk_ok (d := d + 0) (M := (pX_RX5, prog_7_method_3_code, 2, (some .boolean))) (C := rv_hasIslet_orc) (code := rv_hasIslet_code) (ld := [16, 17]) (kl := [(16, fun ls st h => px_if (px_fit [0, 0] ls && px_fits [] st) (rv_hasIslet_16 h)), (17, fun ls st h => px_if (px_fit [0, 0] ls && px_fits [1] st) (rv_hasIslet_17 (px_si st 0) h))]) (rv_hasIslet_orc_ok) pX_ok_RX5 rv_hasIslet_code_ok (px_k1 (px_ko (ts := [0, 0]) (ss := []) fun ls st h q e => rv_hasIslet_16_ok _ _ e) (px_k1 (px_ko (ts := [0, 0]) (ss := [1]) fun ls st h q e => rv_hasIslet_17_ok _ _ _ e) px_k0)) 15 0 _ _ _ q e)
/-! WordsUnsaid$River.hasPlace(I)Z -/
noncomputable def rv_hasPlace_24 (s0 : Int32) (h : pH) : pR :=
  px_bz s0 h
noncomputable def rv_hasPlace_19 (h : pH) : pR :=
  rv_hasPlace_24 (px_c 1) h
noncomputable def rv_hasPlace (x1 : Int32) (h : pH) : pR :=
  if x1 = 0 then
    rv_hasPlace_19 h
  else
    if x1 = (px_c 1) then
      rv_hasPlace_19 h
    else
      px_bind (rv_hasIslet (x1 - (px_c 2)) h) fun z1 h2 =>
      if z1 = 0 then
        rv_hasPlace_24 (px_c 0) h2
      else
        rv_hasPlace_19 h2
def rv_hasPlace_code : pCode := [(0, .iload_n 1, 1), (1, .ifCond .eq (18), 3), (4, .iload_n 1, 1), (5, .iconst 1, 1), (6, .if_icmp .eq (13), 3), (9, .aload_n 0, 1), (10, .iload_n 1, 1), (11, .iconst 2, 1), (12, .isub, 1), (13, .invokevirtual 55, 3), (16, .ifCond .eq (7), 3), (19, .iconst 1, 1), (20, .goto (4), 3), (23, .iconst 0, 1), (24, .ireturn, 1)]
set_option maxRecDepth 200000 in
theorem rv_hasPlace_code_ok : px_code prog_7_method_4_code rv_hasPlace_code = true := by decide +kernel
noncomputable def rv_hasPlace_orc : pC := px_orc [(61, fun a h => match a with
    | [.inr (.inl 14), .inl v1] => rv_hasIslet v1 h
    | _ => none)]
theorem rv_hasPlace_orc_ok {d : Nat} : px_Or (d + 1) (rv_hasPlace_orc) := px_orc_ok (by
  refine px_o1 (fun a h q e => by
    dsimp only at e
    split at e
    · exact rv_hasIslet_ok (d := d + 0) e
    · cases e) ?_
  exact px_o0)
set_option maxRecDepth 200000 in
theorem rv_hasPlace_24_ok {d : Nat} : ∀ (s0 : Int32) (h : pH) (q : Int32 × pH), rv_hasPlace_24 s0 h = some q → px_G (d + 1 + 1) (pX_RX5, prog_7_method_4_code, 2, (some .boolean)) 24 [none, none] [.inl s0] h q := by
  intro s0 h q e
  exact px_blk_ok (d := d + 1) (M := (pX_RX5, prog_7_method_4_code, 2, (some .boolean))) (C := rv_hasPlace_orc) (code := rv_hasPlace_code) (ld := []) (kl := []) (rv_hasPlace_orc_ok) pX_ok_RX5 rv_hasPlace_code_ok (px_k0) 20 24 _ _ h q e
set_option maxRecDepth 200000 in
theorem rv_hasPlace_19_ok {d : Nat} : ∀ (h : pH) (q : Int32 × pH), rv_hasPlace_19 h = some q → px_G (d + 1 + 1) (pX_RX5, prog_7_method_4_code, 2, (some .boolean)) 19 [none, none] [] h q := by
  intro h q e
  exact px_blk_ok (d := d + 1) (M := (pX_RX5, prog_7_method_4_code, 2, (some .boolean))) (C := rv_hasPlace_orc) (code := rv_hasPlace_code) (ld := [24]) (kl := [(24, fun ls st h => px_if (px_fit [0, 0] ls && px_fits [1] st) (rv_hasPlace_24 (px_si st 0) h))]) (rv_hasPlace_orc_ok) pX_ok_RX5 rv_hasPlace_code_ok (px_k1 (px_ko (ts := [0, 0]) (ss := [1]) fun ls st h q e => rv_hasPlace_24_ok _ _ _ e) px_k0) 20 19 _ _ h q e
set_option maxRecDepth 200000 in
theorem rv_hasPlace_ok {d : Nat} {x1 : Int32} {h : pH} {q : Int32 × pH} (e : rv_hasPlace x1 h = some q) : px_Con (d + 2) 62 [.inr (.inl 14), .inl x1] h q :=
  px_con (X := pX_RX5) (b := prog_7_method_4_code) (nL := 2) (rt := (some .boolean)) rfl rfl (Nat.le_of_ble_eq_true rfl) rfl (px_blk_ok (d := d + 1) (M := (pX_RX5, prog_7_method_4_code, 2, (some .boolean))) (C := rv_hasPlace_orc) (code := rv_hasPlace_code) (ld := [19, 24]) (kl := [(19, fun ls st h => px_if (px_fit [0, 0] ls && px_fits [] st) (rv_hasPlace_19 h)), (24, fun ls st h => px_if (px_fit [0, 0] ls && px_fits [1] st) (rv_hasPlace_24 (px_si st 0) h))]) (rv_hasPlace_orc_ok) pX_ok_RX5 rv_hasPlace_code_ok (px_k1 (px_ko (ts := [0, 0]) (ss := []) fun ls st h q e => rv_hasPlace_19_ok _ _ e) (px_k1 (px_ko (ts := [0, 0]) (ss := [1]) fun ls st h q e => rv_hasPlace_24_ok _ _ _ e) px_k0)) 20 0 _ _ _ q e)
/-! WordsUnsaid$River.yardOf(I)I -/
noncomputable def rv_yardOf_30 (s0 : Int32) (h : pH) : pR :=
  some (s0, h)
noncomputable def rv_yardOf (x1 : Int32) (h : pH) : pR :=
  if x1 = 0 then
    rv_yardOf_30 (px_c 0) h
  else
    if x1 = (px_c 1) then
      rv_yardOf_30 (h 14 3) h
    else
      px_bind (wu_at 15 (x1 - (px_c 2)) h) fun z1 h2 =>
      rv_yardOf_30 z1 h2
def rv_yardOf_code : pCode := [(0, .iload_n 1, 1), (1, .ifCond .ne (7), 3), (4, .iconst 0, 1), (5, .goto (25), 3), (8, .iload_n 1, 1), (9, .iconst 1, 1), (10, .if_icmp .ne (10), 3), (13, .aload_n 0, 1), (14, .getfield 18, 3), (17, .goto (13), 3), (20, .aload_n 0, 1), (21, .getfield 11, 3), (24, .iload_n 1, 1), (25, .iconst 2, 1), (26, .isub, 1), (27, .invokestatic 51, 3), (30, .ireturn, 1)]
set_option maxRecDepth 200000 in
theorem rv_yardOf_code_ok : px_code prog_7_method_5_code rv_yardOf_code = true := by decide +kernel
noncomputable def rv_yardOf_orc : pC := px_orc [(158, fun a h => match a with
    | [.inr (.inl v0), .inl v1] => wu_at v0 v1 h
    | _ => none)]
theorem rv_yardOf_orc_ok {d : Nat} : px_Or (d + 1) (rv_yardOf_orc) := px_orc_ok (by
  refine px_o1 (fun a h q e => by
    dsimp only at e
    split at e
    · exact wu_at_ok (d := d + 0) e
    · cases e) ?_
  exact px_o0)
set_option maxRecDepth 200000 in
theorem rv_yardOf_30_ok {d : Nat} : ∀ (s0 : Int32) (h : pH) (q : Int32 × pH), rv_yardOf_30 s0 h = some q → px_G (d + 1 + 1) (pX_RX5, prog_7_method_5_code, 2, (some .int)) 30 [none, none] [.inl s0] h q := by
  intro s0 h q e
  exact px_blk_ok (d := d + 1) (M := (pX_RX5, prog_7_method_5_code, 2, (some .int))) (C := rv_yardOf_orc) (code := rv_yardOf_code) (ld := []) (kl := []) (rv_yardOf_orc_ok) pX_ok_RX5 rv_yardOf_code_ok (px_k0) 22 30 _ _ h q e
set_option maxRecDepth 200000 in
theorem rv_yardOf_ok {d : Nat} {x1 : Int32} {h : pH} {q : Int32 × pH} (e : rv_yardOf x1 h = some q) : px_Con (d + 2) 63 [.inr (.inl 14), .inl x1] h q :=
  px_con (X := pX_RX5) (b := prog_7_method_5_code) (nL := 2) (rt := (some .int)) rfl rfl (Nat.le_of_ble_eq_true rfl) rfl (px_blk_ok (d := d + 1) (M := (pX_RX5, prog_7_method_5_code, 2, (some .int))) (C := rv_yardOf_orc) (code := rv_yardOf_code) (ld := [30]) (kl := [(30, fun ls st h => px_if (px_fit [0, 0] ls && px_fits [1] st) (rv_yardOf_30 (px_si st 0) h))]) (rv_yardOf_orc_ok) pX_ok_RX5 rv_yardOf_code_ok (px_k1 (px_ko (ts := [0, 0]) (ss := [1]) fun ls st h q e => rv_yardOf_30_ok _ _ _ e) px_k0) 22 0 _ _ _ q e)
/-! WordsUnsaid$River.between(II)I -/
noncomputable def rv_between_22 (s0 : Int32) (h : pH) : pR :=
  some (s0, h)
noncomputable def rv_between (x1 : Int32) (x2 : Int32) (h : pH) : pR :=
  px_bind (rv_yardOf x1 h) fun z1 h2 =>
  px_bind (rv_yardOf x2 h2) fun z3 h4 =>
  let y3_5 := z1 - z3
  if 0 ≤ y3_5 then
    rv_between_22 y3_5 h4
  else
    rv_between_22 (-y3_5) h4
def rv_between_code : pCode := [(0, .aload_n 0, 1), (1, .iload_n 1, 1), (2, .invokevirtual 58, 3), (5, .aload_n 0, 1), (6, .iload_n 2, 1), (7, .invokevirtual 58, 3), (10, .isub, 1), (11, .istore_n 3, 1), (12, .iload_n 3, 1), (13, .ifCond .ge (8), 3), (16, .iload_n 3, 1), (17, .ineg, 1), (18, .goto (4), 3), (21, .iload_n 3, 1), (22, .ireturn, 1)]
set_option maxRecDepth 200000 in
theorem rv_between_code_ok : px_code prog_7_method_6_code rv_between_code = true := by decide +kernel
noncomputable def rv_between_orc : pC := px_orc [(63, fun a h => match a with
    | [.inr (.inl 14), .inl v1] => rv_yardOf v1 h
    | _ => none)]
theorem rv_between_orc_ok {d : Nat} : px_Or (d + 2) (rv_between_orc) := px_orc_ok (by
  refine px_o1 (fun a h q e => by
    dsimp only at e
    split at e
    · exact rv_yardOf_ok (d := d + 0) e
    · cases e) ?_
  exact px_o0)
set_option maxRecDepth 200000 in
theorem rv_between_22_ok {d : Nat} : ∀ (s0 : Int32) (h : pH) (q : Int32 × pH), rv_between_22 s0 h = some q → px_G (d + 2 + 1) (pX_RX5, prog_7_method_6_code, 4, (some .int)) 22 [none, none, none, none] [.inl s0] h q := by
  intro s0 h q e
  exact px_blk_ok (d := d + 2) (M := (pX_RX5, prog_7_method_6_code, 4, (some .int))) (C := rv_between_orc) (code := rv_between_code) (ld := []) (kl := []) (rv_between_orc_ok) pX_ok_RX5 rv_between_code_ok (px_k0) 20 22 _ _ h q e
set_option maxRecDepth 200000 in
theorem rv_between_ok {d : Nat} {x1 : Int32} {x2 : Int32} {h : pH} {q : Int32 × pH} (e : rv_between x1 x2 h = some q) : px_Con (d + 3) 64 [.inr (.inl 14), .inl x1, .inl x2] h q :=
  px_con (X := pX_RX5) (b := prog_7_method_6_code) (nL := 4) (rt := (some .int)) rfl rfl (Nat.le_of_ble_eq_true rfl) rfl (px_blk_ok (d := d + 2) (M := (pX_RX5, prog_7_method_6_code, 4, (some .int))) (C := rv_between_orc) (code := rv_between_code) (ld := [22]) (kl := [(22, fun ls st h => px_if (px_fit [0, 0, 0, 0] ls && px_fits [1] st) (rv_between_22 (px_si st 0) h))]) (rv_between_orc_ok) pX_ok_RX5 rv_between_code_ok (px_k1 (px_ko (ts := [0, 0, 0, 0]) (ss := [1]) fun ls st h q e => rv_between_22_ok _ _ _ e) px_k0) 20 0 _ _ _ q e)
/-! WordsUnsaid$River.landing(III)I -/
noncomputable def rv_landing_110 (r13 : Int32 → Int32 → Int32 → Int32 → Int32 → Int32 → pH → pR) (x1 : Int32) (x2 : Int32) (x3 : Int32) (x4 : Int32) (x5 : Int32) (x6 : Int32) (h : pH) : pR :=
  r13 x1 x2 x3 x4 x5 (x6 + px_c 1) h
noncomputable def rv_landing_104 (r13 : Int32 → Int32 → Int32 → Int32 → Int32 → Int32 → pH → pR) (x1 : Int32) (x2 : Int32) (x3 : Int32) (x4 : Int32) (x6 : Int32) (h : pH) : pR :=
  let y5_1 := (px_c 2) + x6
  rv_landing_110 r13 x1 x2 x3 x4 y5_1 x6 h
noncomputable def rv_landing_86 (r13 : Int32 → Int32 → Int32 → Int32 → Int32 → Int32 → pH → pR) (x1 : Int32) (x2 : Int32) (x3 : Int32) (x4 : Int32) (x5 : Int32) (x6 : Int32) (x8 : Int32) (s0 : Int32) (h : pH) : pR :=
  if x8 = 0 then
    if s0 = 0 then
      rv_landing_110 r13 x1 x2 x3 x4 x5 x6 h
    else
      if x5 = x1 then
        rv_landing_104 r13 x1 x2 x3 x4 x6 h
      else
        rv_landing_110 r13 x1 x2 x3 x4 x5 x6 h
  else
    rv_landing_104 r13 x1 x2 x3 x4 x6 h
noncomputable def rv_landing_85 (r13 : Int32 → Int32 → Int32 → Int32 → Int32 → Int32 → pH → pR) (x1 : Int32) (x2 : Int32) (x3 : Int32) (x4 : Int32) (x5 : Int32) (x6 : Int32) (x8 : Int32) (h : pH) : pR :=
  rv_landing_86 r13 x1 x2 x3 x4 x5 x6 x8 (px_c 0) h
noncomputable def rv_landing_59 (r13 : Int32 → Int32 → Int32 → Int32 → Int32 → Int32 → pH → pR) (x1 : Int32) (x2 : Int32) (x3 : Int32) (x4 : Int32) (x5 : Int32) (x6 : Int32) (x7 : Int32) (s0 : Int32) (h : pH) : pR :=
  if x2 = 0 then
    if x4 ≤ x7 then
      rv_landing_85 r13 x1 x2 x3 x4 x5 x6 s0 h
    else
      if x7 < (x4 - x3) then
        rv_landing_85 r13 x1 x2 x3 x4 x5 x6 s0 h
      else
        rv_landing_86 r13 x1 x2 x3 x4 x5 x6 s0 (px_c 1) h
  else
    rv_landing_85 r13 x1 x2 x3 x4 x5 x6 s0 h
noncomputable def rv_landing_58 (r13 : Int32 → Int32 → Int32 → Int32 → Int32 → Int32 → pH → pR) (x1 : Int32) (x2 : Int32) (x3 : Int32) (x4 : Int32) (x5 : Int32) (x6 : Int32) (x7 : Int32) (h : pH) : pR :=
  rv_landing_59 r13 x1 x2 x3 x4 x5 x6 x7 (px_c 0) h
noncomputable def rv_landing_13 : Nat → Int32 → Int32 → Int32 → Int32 → Int32 → Int32 → pH → pR
  | 0, _, _, _, _, _, _, _ => none
  | n + 1, x1, x2, x3, x4, x5, x6, h =>
    if (h 14 2) ≤ x6 then
      some (x5, h)
    else
      px_bind (wu_at 15 x6 h) fun z1 h2 =>
      if x2 = (px_c 1) then
        if z1 ≤ x4 then
          rv_landing_58 (rv_landing_13 n) x1 x2 x3 x4 x5 x6 z1 h2
        else
          if (x4 + x3) < z1 then
            rv_landing_58 (rv_landing_13 n) x1 x2 x3 x4 x5 x6 z1 h2
          else
            rv_landing_59 (rv_landing_13 n) x1 x2 x3 x4 x5 x6 z1 (px_c 1) h2
      else
        rv_landing_58 (rv_landing_13 n) x1 x2 x3 x4 x5 x6 z1 h2
noncomputable def rv_landing (x1 : Int32) (x2 : Int32) (x3 : Int32) (h : pH) : pR :=
  px_bind (rv_yardOf x1 h) fun z1 h2 =>
  rv_landing_13 px_F x1 x2 x3 z1 x1 (px_c 0) h2
def rv_landing_code : pCode := [(0, .aload_n 0, 1), (1, .iload_n 1, 1), (2, .invokevirtual 58, 3), (5, .istore 4, 2), (7, .iload_n 1, 1), (8, .istore 5, 2), (10, .iconst 0, 1), (11, .istore 6, 2), (13, .iload 6, 2), (15, .aload_n 0, 1), (16, .getfield 48, 3), (19, .if_icmp .ge (97), 3), (22, .aload_n 0, 1), (23, .getfield 11, 3), (26, .iload 6, 2), (28, .invokestatic 51, 3), (31, .istore 7, 2), (33, .iload_n 2, 1), (34, .iconst 1, 1), (35, .if_icmp .ne (23), 3), (38, .iload 7, 2), (40, .iload 4, 2), (42, .if_icmp .le (16), 3), (45, .iload 7, 2), (47, .iload 4, 2), (49, .iload_n 3, 1), (50, .iadd, 1), (51, .if_icmp .gt (7), 3), (54, .iconst 1, 1), (55, .goto (4), 3), (58, .iconst 0, 1), (59, .istore 8, 2), (61, .iload_n 2, 1), (62, .ifCond .ne (23), 3), (65, .iload 7, 2), (67, .iload 4, 2), (69, .if_icmp .ge (16), 3), (72, .iload 7, 2), (74, .iload 4, 2), (76, .iload_n 3, 1), (77, .isub, 1), (78, .if_icmp .lt (7), 3), (81, .iconst 1, 1), (82, .goto (4), 3), (85, .iconst 0, 1), (86, .istore 9, 2), (88, .iload 8, 2), (90, .ifCond .ne (14), 3), (93, .iload 9, 2), (95, .ifCond .eq (15), 3), (98, .iload 5, 2), (100, .iload_n 1, 1), (101, .if_icmp .ne (9), 3), (104, .iconst 2, 1), (105, .iload 6, 2), (107, .iadd, 1), (108, .istore 5, 2), (110, .iinc 6 (1), 3), (113, .goto (-100), 3), (116, .iload 5, 2), (118, .ireturn, 1)]
set_option maxRecDepth 200000 in
theorem rv_landing_code_ok : px_code prog_7_method_7_code rv_landing_code = true := by decide +kernel
noncomputable def rv_landing_orc : pC := px_orc [(158, fun a h => match a with
    | [.inr (.inl v0), .inl v1] => wu_at v0 v1 h
    | _ => none), (63, fun a h => match a with
    | [.inr (.inl 14), .inl v1] => rv_yardOf v1 h
    | _ => none)]
theorem rv_landing_orc_ok {d : Nat} : px_Or (d + 2) (rv_landing_orc) := px_orc_ok (by
  refine px_o1 (fun a h q e => by
    dsimp only at e
    split at e
    · exact wu_at_ok (d := d + 1) e
    · cases e) ?_
  refine px_o1 (fun a h q e => by
    dsimp only at e
    split at e
    · exact rv_yardOf_ok (d := d + 0) e
    · cases e) ?_
  exact px_o0)
set_option maxRecDepth 200000 in
theorem rv_landing_110_ok {d : Nat} {r13 : Int32 → Int32 → Int32 → Int32 → Int32 → Int32 → pH → pR} (hr13 : ∀ (x1 : Int32) (x2 : Int32) (x3 : Int32) (x4 : Int32) (x5 : Int32) (x6 : Int32) (h : pH) (q : Int32 × pH), r13 x1 x2 x3 x4 x5 x6 h = some q → px_G (d + 2 + 1) (pX_RX5, prog_7_method_7_code, 10, (some .int)) 13 [some (.inr (.inl 14)), some (.inl x1), some (.inl x2), some (.inl x3), some (.inl x4), some (.inl x5), some (.inl x6), none, none, none] [] h q) : ∀ (x1 : Int32) (x2 : Int32) (x3 : Int32) (x4 : Int32) (x5 : Int32) (x6 : Int32) (h : pH) (q : Int32 × pH), rv_landing_110 r13 x1 x2 x3 x4 x5 x6 h = some q → px_G (d + 2 + 1) (pX_RX5, prog_7_method_7_code, 10, (some .int)) 110 [some (.inr (.inl 14)), some (.inl x1), some (.inl x2), some (.inl x3), some (.inl x4), some (.inl x5), some (.inl x6), none, none, none] [] h q := by
  intro x1 x2 x3 x4 x5 x6 h q e
  exact px_blk_ok (d := d + 2) (M := (pX_RX5, prog_7_method_7_code, 10, (some .int))) (C := rv_landing_orc) (code := rv_landing_code) (ld := [13]) (kl := [(13, fun ls st h => px_if (px_fit [24, 1, 1, 1, 1, 1, 1, 0, 0, 0] ls && px_fits [] st) (r13 (px_gi ls 1) (px_gi ls 2) (px_gi ls 3) (px_gi ls 4) (px_gi ls 5) (px_gi ls 6) h))]) (rv_landing_orc_ok) pX_ok_RX5 rv_landing_code_ok (px_k1 (px_ko (ts := [24, 1, 1, 1, 1, 1, 1, 0, 0, 0]) (ss := []) fun ls st h q e => hr13 _ _ _ _ _ _ _ _ e) px_k0) 66 110 _ _ h q e
set_option maxRecDepth 200000 in
theorem rv_landing_104_ok {d : Nat} {r13 : Int32 → Int32 → Int32 → Int32 → Int32 → Int32 → pH → pR} (hr13 : ∀ (x1 : Int32) (x2 : Int32) (x3 : Int32) (x4 : Int32) (x5 : Int32) (x6 : Int32) (h : pH) (q : Int32 × pH), r13 x1 x2 x3 x4 x5 x6 h = some q → px_G (d + 2 + 1) (pX_RX5, prog_7_method_7_code, 10, (some .int)) 13 [some (.inr (.inl 14)), some (.inl x1), some (.inl x2), some (.inl x3), some (.inl x4), some (.inl x5), some (.inl x6), none, none, none] [] h q) : ∀ (x1 : Int32) (x2 : Int32) (x3 : Int32) (x4 : Int32) (x6 : Int32) (h : pH) (q : Int32 × pH), rv_landing_104 r13 x1 x2 x3 x4 x6 h = some q → px_G (d + 2 + 1) (pX_RX5, prog_7_method_7_code, 10, (some .int)) 104 [some (.inr (.inl 14)), some (.inl x1), some (.inl x2), some (.inl x3), some (.inl x4), none, some (.inl x6), none, none, none] [] h q := by
  intro x1 x2 x3 x4 x6 h q e
  exact px_blk_ok (d := d + 2) (M := (pX_RX5, prog_7_method_7_code, 10, (some .int))) (C := rv_landing_orc) (code := rv_landing_code) (ld := [110]) (kl := [(110, fun ls st h => px_if (px_fit [24, 1, 1, 1, 1, 1, 1, 0, 0, 0] ls && px_fits [] st) (rv_landing_110 r13 (px_gi ls 1) (px_gi ls 2) (px_gi ls 3) (px_gi ls 4) (px_gi ls 5) (px_gi ls 6) h))]) (rv_landing_orc_ok) pX_ok_RX5 rv_landing_code_ok (px_k1 (px_ko (ts := [24, 1, 1, 1, 1, 1, 1, 0, 0, 0]) (ss := []) fun ls st h q e => rv_landing_110_ok hr13 _ _ _ _ _ _ _ _ e) px_k0) 66 104 _ _ h q e
set_option maxRecDepth 200000 in
theorem rv_landing_86_ok {d : Nat} {r13 : Int32 → Int32 → Int32 → Int32 → Int32 → Int32 → pH → pR} (hr13 : ∀ (x1 : Int32) (x2 : Int32) (x3 : Int32) (x4 : Int32) (x5 : Int32) (x6 : Int32) (h : pH) (q : Int32 × pH), r13 x1 x2 x3 x4 x5 x6 h = some q → px_G (d + 2 + 1) (pX_RX5, prog_7_method_7_code, 10, (some .int)) 13 [some (.inr (.inl 14)), some (.inl x1), some (.inl x2), some (.inl x3), some (.inl x4), some (.inl x5), some (.inl x6), none, none, none] [] h q) : ∀ (x1 : Int32) (x2 : Int32) (x3 : Int32) (x4 : Int32) (x5 : Int32) (x6 : Int32) (x8 : Int32) (s0 : Int32) (h : pH) (q : Int32 × pH), rv_landing_86 r13 x1 x2 x3 x4 x5 x6 x8 s0 h = some q → px_G (d + 2 + 1) (pX_RX5, prog_7_method_7_code, 10, (some .int)) 86 [some (.inr (.inl 14)), some (.inl x1), some (.inl x2), some (.inl x3), some (.inl x4), some (.inl x5), some (.inl x6), none, some (.inl x8), none] [.inl s0] h q := by
  intro x1 x2 x3 x4 x5 x6 x8 s0 h q e
  exact px_blk_ok (d := d + 2) (M := (pX_RX5, prog_7_method_7_code, 10, (some .int))) (C := rv_landing_orc) (code := rv_landing_code) (ld := [104, 110]) (kl := [(104, fun ls st h => px_if (px_fit [24, 1, 1, 1, 1, 0, 1, 0, 0, 0] ls && px_fits [] st) (rv_landing_104 r13 (px_gi ls 1) (px_gi ls 2) (px_gi ls 3) (px_gi ls 4) (px_gi ls 6) h)), (110, fun ls st h => px_if (px_fit [24, 1, 1, 1, 1, 1, 1, 0, 0, 0] ls && px_fits [] st) (rv_landing_110 r13 (px_gi ls 1) (px_gi ls 2) (px_gi ls 3) (px_gi ls 4) (px_gi ls 5) (px_gi ls 6) h))]) (rv_landing_orc_ok) pX_ok_RX5 rv_landing_code_ok (px_k1 (px_ko (ts := [24, 1, 1, 1, 1, 0, 1, 0, 0, 0]) (ss := []) fun ls st h q e => rv_landing_104_ok hr13 _ _ _ _ _ _ _ e) (px_k1 (px_ko (ts := [24, 1, 1, 1, 1, 1, 1, 0, 0, 0]) (ss := []) fun ls st h q e => rv_landing_110_ok hr13 _ _ _ _ _ _ _ _ e) px_k0)) 66 86 _ _ h q e
set_option maxRecDepth 200000 in
theorem rv_landing_85_ok {d : Nat} {r13 : Int32 → Int32 → Int32 → Int32 → Int32 → Int32 → pH → pR} (hr13 : ∀ (x1 : Int32) (x2 : Int32) (x3 : Int32) (x4 : Int32) (x5 : Int32) (x6 : Int32) (h : pH) (q : Int32 × pH), r13 x1 x2 x3 x4 x5 x6 h = some q → px_G (d + 2 + 1) (pX_RX5, prog_7_method_7_code, 10, (some .int)) 13 [some (.inr (.inl 14)), some (.inl x1), some (.inl x2), some (.inl x3), some (.inl x4), some (.inl x5), some (.inl x6), none, none, none] [] h q) : ∀ (x1 : Int32) (x2 : Int32) (x3 : Int32) (x4 : Int32) (x5 : Int32) (x6 : Int32) (x8 : Int32) (h : pH) (q : Int32 × pH), rv_landing_85 r13 x1 x2 x3 x4 x5 x6 x8 h = some q → px_G (d + 2 + 1) (pX_RX5, prog_7_method_7_code, 10, (some .int)) 85 [some (.inr (.inl 14)), some (.inl x1), some (.inl x2), some (.inl x3), some (.inl x4), some (.inl x5), some (.inl x6), none, some (.inl x8), none] [] h q := by
  intro x1 x2 x3 x4 x5 x6 x8 h q e
  exact px_blk_ok (d := d + 2) (M := (pX_RX5, prog_7_method_7_code, 10, (some .int))) (C := rv_landing_orc) (code := rv_landing_code) (ld := [86]) (kl := [(86, fun ls st h => px_if (px_fit [24, 1, 1, 1, 1, 1, 1, 0, 1, 0] ls && px_fits [1] st) (rv_landing_86 r13 (px_gi ls 1) (px_gi ls 2) (px_gi ls 3) (px_gi ls 4) (px_gi ls 5) (px_gi ls 6) (px_gi ls 8) (px_si st 0) h))]) (rv_landing_orc_ok) pX_ok_RX5 rv_landing_code_ok (px_k1 (px_ko (ts := [24, 1, 1, 1, 1, 1, 1, 0, 1, 0]) (ss := [1]) fun ls st h q e => rv_landing_86_ok hr13 _ _ _ _ _ _ _ _ _ _ e) px_k0) 66 85 _ _ h q e
set_option maxRecDepth 200000 in
theorem rv_landing_59_ok {d : Nat} {r13 : Int32 → Int32 → Int32 → Int32 → Int32 → Int32 → pH → pR} (hr13 : ∀ (x1 : Int32) (x2 : Int32) (x3 : Int32) (x4 : Int32) (x5 : Int32) (x6 : Int32) (h : pH) (q : Int32 × pH), r13 x1 x2 x3 x4 x5 x6 h = some q → px_G (d + 2 + 1) (pX_RX5, prog_7_method_7_code, 10, (some .int)) 13 [some (.inr (.inl 14)), some (.inl x1), some (.inl x2), some (.inl x3), some (.inl x4), some (.inl x5), some (.inl x6), none, none, none] [] h q) : ∀ (x1 : Int32) (x2 : Int32) (x3 : Int32) (x4 : Int32) (x5 : Int32) (x6 : Int32) (x7 : Int32) (s0 : Int32) (h : pH) (q : Int32 × pH), rv_landing_59 r13 x1 x2 x3 x4 x5 x6 x7 s0 h = some q → px_G (d + 2 + 1) (pX_RX5, prog_7_method_7_code, 10, (some .int)) 59 [some (.inr (.inl 14)), some (.inl x1), some (.inl x2), some (.inl x3), some (.inl x4), some (.inl x5), some (.inl x6), some (.inl x7), none, none] [.inl s0] h q := by
  intro x1 x2 x3 x4 x5 x6 x7 s0 h q e
  exact px_blk_ok (d := d + 2) (M := (pX_RX5, prog_7_method_7_code, 10, (some .int))) (C := rv_landing_orc) (code := rv_landing_code) (ld := [85, 86]) (kl := [(85, fun ls st h => px_if (px_fit [24, 1, 1, 1, 1, 1, 1, 0, 1, 0] ls && px_fits [] st) (rv_landing_85 r13 (px_gi ls 1) (px_gi ls 2) (px_gi ls 3) (px_gi ls 4) (px_gi ls 5) (px_gi ls 6) (px_gi ls 8) h)), (86, fun ls st h => px_if (px_fit [24, 1, 1, 1, 1, 1, 1, 0, 1, 0] ls && px_fits [1] st) (rv_landing_86 r13 (px_gi ls 1) (px_gi ls 2) (px_gi ls 3) (px_gi ls 4) (px_gi ls 5) (px_gi ls 6) (px_gi ls 8) (px_si st 0) h))]) (rv_landing_orc_ok) pX_ok_RX5 rv_landing_code_ok (px_k1 (px_ko (ts := [24, 1, 1, 1, 1, 1, 1, 0, 1, 0]) (ss := []) fun ls st h q e => rv_landing_85_ok hr13 _ _ _ _ _ _ _ _ _ e) (px_k1 (px_ko (ts := [24, 1, 1, 1, 1, 1, 1, 0, 1, 0]) (ss := [1]) fun ls st h q e => rv_landing_86_ok hr13 _ _ _ _ _ _ _ _ _ _ e) px_k0)) 66 59 _ _ h q e
set_option maxRecDepth 200000 in
theorem rv_landing_58_ok {d : Nat} {r13 : Int32 → Int32 → Int32 → Int32 → Int32 → Int32 → pH → pR} (hr13 : ∀ (x1 : Int32) (x2 : Int32) (x3 : Int32) (x4 : Int32) (x5 : Int32) (x6 : Int32) (h : pH) (q : Int32 × pH), r13 x1 x2 x3 x4 x5 x6 h = some q → px_G (d + 2 + 1) (pX_RX5, prog_7_method_7_code, 10, (some .int)) 13 [some (.inr (.inl 14)), some (.inl x1), some (.inl x2), some (.inl x3), some (.inl x4), some (.inl x5), some (.inl x6), none, none, none] [] h q) : ∀ (x1 : Int32) (x2 : Int32) (x3 : Int32) (x4 : Int32) (x5 : Int32) (x6 : Int32) (x7 : Int32) (h : pH) (q : Int32 × pH), rv_landing_58 r13 x1 x2 x3 x4 x5 x6 x7 h = some q → px_G (d + 2 + 1) (pX_RX5, prog_7_method_7_code, 10, (some .int)) 58 [some (.inr (.inl 14)), some (.inl x1), some (.inl x2), some (.inl x3), some (.inl x4), some (.inl x5), some (.inl x6), some (.inl x7), none, none] [] h q := by
  intro x1 x2 x3 x4 x5 x6 x7 h q e
  exact px_blk_ok (d := d + 2) (M := (pX_RX5, prog_7_method_7_code, 10, (some .int))) (C := rv_landing_orc) (code := rv_landing_code) (ld := [59]) (kl := [(59, fun ls st h => px_if (px_fit [24, 1, 1, 1, 1, 1, 1, 1, 0, 0] ls && px_fits [1] st) (rv_landing_59 r13 (px_gi ls 1) (px_gi ls 2) (px_gi ls 3) (px_gi ls 4) (px_gi ls 5) (px_gi ls 6) (px_gi ls 7) (px_si st 0) h))]) (rv_landing_orc_ok) pX_ok_RX5 rv_landing_code_ok (px_k1 (px_ko (ts := [24, 1, 1, 1, 1, 1, 1, 1, 0, 0]) (ss := [1]) fun ls st h q e => rv_landing_59_ok hr13 _ _ _ _ _ _ _ _ _ _ e) px_k0) 66 58 _ _ h q e
set_option maxRecDepth 200000 in
theorem rv_landing_13_ok {d : Nat} : ∀ (n : Nat) (x1 : Int32) (x2 : Int32) (x3 : Int32) (x4 : Int32) (x5 : Int32) (x6 : Int32) (h : pH) (q : Int32 × pH), rv_landing_13 n x1 x2 x3 x4 x5 x6 h = some q → px_G (d + 2 + 1) (pX_RX5, prog_7_method_7_code, 10, (some .int)) 13 [some (.inr (.inl 14)), some (.inl x1), some (.inl x2), some (.inl x3), some (.inl x4), some (.inl x5), some (.inl x6), none, none, none] [] h q := by
  intro n
  induction n with
  | zero =>
    intro x1 x2 x3 x4 x5 x6 h q e
    cases e
  | succ n ih =>
    intro x1 x2 x3 x4 x5 x6 h q e
    exact px_blk_ok (d := d + 2) (M := (pX_RX5, prog_7_method_7_code, 10, (some .int))) (C := rv_landing_orc) (code := rv_landing_code) (ld := [58, 59]) (kl := [(58, fun ls st h => px_if (px_fit [24, 1, 1, 1, 1, 1, 1, 1, 0, 0] ls && px_fits [] st) (rv_landing_58 (rv_landing_13 n) (px_gi ls 1) (px_gi ls 2) (px_gi ls 3) (px_gi ls 4) (px_gi ls 5) (px_gi ls 6) (px_gi ls 7) h)), (59, fun ls st h => px_if (px_fit [24, 1, 1, 1, 1, 1, 1, 1, 0, 0] ls && px_fits [1] st) (rv_landing_59 (rv_landing_13 n) (px_gi ls 1) (px_gi ls 2) (px_gi ls 3) (px_gi ls 4) (px_gi ls 5) (px_gi ls 6) (px_gi ls 7) (px_si st 0) h))]) (rv_landing_orc_ok) pX_ok_RX5 rv_landing_code_ok (px_k1 (px_ko (ts := [24, 1, 1, 1, 1, 1, 1, 1, 0, 0]) (ss := []) fun ls st h q e => rv_landing_58_ok ih _ _ _ _ _ _ _ _ _ e) (px_k1 (px_ko (ts := [24, 1, 1, 1, 1, 1, 1, 1, 0, 0]) (ss := [1]) fun ls st h q e => rv_landing_59_ok ih _ _ _ _ _ _ _ _ _ _ e) px_k0)) 66 13 _ _ h q e
set_option maxRecDepth 200000 in
theorem rv_landing_ok {d : Nat} {x1 : Int32} {x2 : Int32} {x3 : Int32} {h : pH} {q : Int32 × pH} (e : rv_landing x1 x2 x3 h = some q) : px_Con (d + 3) 65 [.inr (.inl 14), .inl x1, .inl x2, .inl x3] h q :=
  px_con (X := pX_RX5) (b := prog_7_method_7_code) (nL := 10) (rt := (some .int)) rfl rfl (Nat.le_of_ble_eq_true rfl) rfl (px_blk_ok (d := d + 2) (M := (pX_RX5, prog_7_method_7_code, 10, (some .int))) (C := rv_landing_orc) (code := rv_landing_code) (ld := [13]) (kl := [(13, fun ls st h => px_if (px_fit [24, 1, 1, 1, 1, 1, 1, 0, 0, 0] ls && px_fits [] st) (rv_landing_13 px_F (px_gi ls 1) (px_gi ls 2) (px_gi ls 3) (px_gi ls 4) (px_gi ls 5) (px_gi ls 6) h))]) (rv_landing_orc_ok) pX_ok_RX5 rv_landing_code_ok (px_k1 (px_ko (ts := [24, 1, 1, 1, 1, 1, 1, 0, 0, 0]) (ss := []) fun ls st h q e => rv_landing_13_ok _ _ _ _ _ _ _ _ _ e) px_k0) 66 0 _ _ _ q e)
