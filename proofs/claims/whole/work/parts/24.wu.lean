/-! WordsUnsaid -/
/-! WordsUnsaid.sign(I)I -/
noncomputable def wu_sign_22 (s0 : Int32) (h : pH) : pR :=
  some (s0, h)
noncomputable def wu_sign (x1 : Int32) (h : pH) : pR :=
  px_bind (tx_add x1 h) fun z1 h2 =>
  if z1 = 0 then
    wu_sign_22 (px_c (-1)) h2
  else
    wu_sign_22 (h2 1 1) h2
def wu_sign_code : pCode := [(0, .aload_n 0, 1), (1, .getfield 10, 3), (4, .iload_n 1, 1), (5, .invokevirtual 86, 3), (8, .ifCond .eq (13), 3), (11, .aload_n 0, 1), (12, .getfield 10, 3), (15, .getfield 90, 3), (18, .goto (4), 3), (21, .iconst (-1), 1), (22, .ireturn, 1)]
set_option maxRecDepth 200000 in
theorem wu_sign_code_ok : px_code prog_1_method_2_code wu_sign_code = true := by decide +kernel
noncomputable def wu_sign_orc : pC := px_orc [(86, fun a h => match a with
    | [.inr (.inl 1), .inl v1] => tx_add v1 h
    | _ => none)]
theorem wu_sign_orc_ok {d : Nat} : px_Or (d + 1) (wu_sign_orc) := px_orc_ok (by
  refine px_o1 (fun a h q e => by
    dsimp only at e
    split at e
    · exact tx_add_ok (d := d + 0) e
    · cases e) ?_
  exact px_o0)
set_option maxRecDepth 200000 in
theorem wu_sign_22_ok {d : Nat} : ∀ (s0 : Int32) (h : pH) (q : Int32 × pH), wu_sign_22 s0 h = some q → px_G (d + 1 + 1) (pX_RX10, prog_1_method_2_code, 2, (some .int)) 22 [none, none] [.inl s0] h q := by
  intro s0 h q e
  exact px_blk_ok (d := d + 1) (M := (pX_RX10, prog_1_method_2_code, 2, (some .int))) (C := wu_sign_orc) (code := wu_sign_code) (ld := []) (kl := []) (wu_sign_orc_ok) pX_ok_RX10 wu_sign_code_ok (px_k0) 16 22 _ _ h q e
set_option maxRecDepth 200000 in
theorem wu_sign_ok {d : Nat} {x1 : Int32} {h : pH} {q : Int32 × pH} (e : wu_sign x1 h = some q) : px_Con (d + 2) 120 [.inr (.inl 0), .inl x1] h q :=
  px_con (X := pX_RX10) (b := prog_1_method_2_code) (nL := 2) (rt := (some .int)) rfl rfl (Nat.le_of_ble_eq_true rfl) rfl (px_blk_ok (d := d + 1) (M := (pX_RX10, prog_1_method_2_code, 2, (some .int))) (C := wu_sign_orc) (code := wu_sign_code) (ld := [22]) (kl := [(22, fun ls st h => px_if (px_fit [0, 0] ls && px_fits [1] st) (wu_sign_22 (px_si st 0) h))]) (wu_sign_orc_ok) pX_ok_RX10 wu_sign_code_ok (px_k1 (px_ko (ts := [0, 0]) (ss := [1]) fun ls st h q e => wu_sign_22_ok _ _ _ e) px_k0) 16 0 _ _ _ q e)
/-! WordsUnsaid.end(I)Z -/
noncomputable def wu_end (x1 : Int32) (h : pH) : pR :=
  px_bind (tx_cut x1 h) fun z1 h2 =>
  px_bz z1 h2
def wu_end_code : pCode := [(0, .aload_n 0, 1), (1, .getfield 10, 3), (4, .iload_n 1, 1), (5, .invokevirtual 94, 3), (8, .ireturn, 1)]
set_option maxRecDepth 200000 in
theorem wu_end_code_ok : px_code prog_1_method_3_code wu_end_code = true := by decide +kernel
noncomputable def wu_end_orc : pC := px_orc [(87, fun a h => match a with
    | [.inr (.inl 1), .inl v1] => tx_cut v1 h
    | _ => none)]
theorem wu_end_orc_ok {d : Nat} : px_Or (d + 1) (wu_end_orc) := px_orc_ok (by
  refine px_o1 (fun a h q e => by
    dsimp only at e
    split at e
    · exact tx_cut_ok (d := d + 0) e
    · cases e) ?_
  exact px_o0)
set_option maxRecDepth 200000 in
theorem wu_end_ok {d : Nat} {x1 : Int32} {h : pH} {q : Int32 × pH} (e : wu_end x1 h = some q) : px_Con (d + 2) 121 [.inr (.inl 0), .inl x1] h q :=
  px_con (X := pX_RX10) (b := prog_1_method_3_code) (nL := 2) (rt := (some .boolean)) rfl rfl (Nat.le_of_ble_eq_true rfl) rfl (px_blk_ok (d := d + 1) (M := (pX_RX10, prog_1_method_3_code, 2, (some .boolean))) (C := wu_end_orc) (code := wu_end_code) (ld := []) (kl := []) (wu_end_orc_ok) pX_ok_RX10 wu_end_code_ok (px_k0) 10 0 _ _ _ q e)
/-! WordsUnsaid.river()I -/
noncomputable def wu_river_47 (x1 : Int32) (h : pH) : pR :=
  some (x1, h)
noncomputable def wu_river_26 (s0 : Int32) (h : pH) : pR :=
  px_bind (tx_cut (px_c 0) h) fun z1 h2 =>
  if s0 < 0 then
    wu_river_47 s0 h2
  else
    px_bind (me_forgetAll h2) fun _ h4 =>
    wu_river_47 s0 h4
noncomputable def wu_river (h : pH) : pR :=
  px_bind (hs_onIslets h) fun z1 h2 =>
  if z1 = 0 then
    px_bind (rv_read h2) fun z3 h4 =>
    wu_river_26 z3 h4
  else
    wu_river_26 (px_c (-100)) h2
def wu_river_code : pCode := [(0, .aload_n 0, 1), (1, .getfield 19, 3), (4, .invokevirtual 97, 3), (7, .ifCond .eq (8), 3), (10, .bipush (-100), 2), (12, .goto (14), 3), (15, .aload_n 0, 1), (16, .getfield 26, 3), (19, .aload_n 0, 1), (20, .getfield 10, 3), (23, .invokevirtual 101, 3), (26, .istore_n 1, 1), (27, .aload_n 0, 1), (28, .getfield 10, 3), (31, .iconst 0, 1), (32, .invokevirtual 94, 3), (35, .pop, 1), (36, .iload_n 1, 1), (37, .ifCond .lt (10), 3), (40, .aload_n 0, 1), (41, .getfield 61, 3), (44, .invokevirtual 105, 3), (47, .iload_n 1, 1), (48, .ireturn, 1)]
set_option maxRecDepth 200000 in
theorem wu_river_code_ok : px_code prog_1_method_4_code wu_river_code = true := by decide +kernel
noncomputable def wu_river_orc : pC := px_orc [(87, fun a h => match a with
    | [.inr (.inl 1), .inl v1] => tx_cut v1 h
    | _ => none), (57, fun a h => match a with
    | [.inr (.inl 41)] => me_forgetAll h
    | _ => none), (28, fun a h => match a with
    | [.inr (.inl 3)] => hs_onIslets h
    | _ => none), (60, fun a h => match a with
    | [.inr (.inl 14), .inr (.inl 1)] => rv_read h
    | _ => none)]
theorem wu_river_orc_ok {d : Nat} : px_Or (d + 4) (wu_river_orc) := px_orc_ok (by
  refine px_o1 (fun a h q e => by
    dsimp only at e
    split at e
    · exact tx_cut_ok (d := d + 3) e
    · cases e) ?_
  refine px_o1 (fun a h q e => by
    dsimp only at e
    split at e
    · exact me_forgetAll_ok (d := d + 3) e
    · cases e) ?_
  refine px_o1 (fun a h q e => by
    dsimp only at e
    split at e
    · exact hs_onIslets_ok (d := d + 1) e
    · cases e) ?_
  refine px_o1 (fun a h q e => by
    dsimp only at e
    split at e
    · exact rv_read_ok (d := d + 0) e
    · cases e) ?_
  exact px_o0)
set_option maxRecDepth 200000 in
theorem wu_river_47_ok {d : Nat} : ∀ (x1 : Int32) (h : pH) (q : Int32 × pH), wu_river_47 x1 h = some q → px_G (d + 4 + 1) (pX_RX10, prog_1_method_4_code, 2, (some .int)) 47 [none, some (.inl x1)] [] h q := by
  intro x1 h q e
  exact px_blk_ok (d := d + 4) (M := (pX_RX10, prog_1_method_4_code, 2, (some .int))) (C := wu_river_orc) (code := wu_river_code) (ld := []) (kl := []) (wu_river_orc_ok) pX_ok_RX10 wu_river_code_ok (px_k0) 29 47 _ _ h q e
set_option maxRecDepth 200000 in
theorem wu_river_26_ok {d : Nat} : ∀ (s0 : Int32) (h : pH) (q : Int32 × pH), wu_river_26 s0 h = some q → px_G (d + 4 + 1) (pX_RX10, prog_1_method_4_code, 2, (some .int)) 26 [some (.inr (.inl 0)), none] [.inl s0] h q := by
  intro s0 h q e
  exact px_blk_ok (d := d + 4) (M := (pX_RX10, prog_1_method_4_code, 2, (some .int))) (C := wu_river_orc) (code := wu_river_code) (ld := [47]) (kl := [(47, fun ls st h => px_if (px_fit [0, 1] ls && px_fits [] st) (wu_river_47 (px_gi ls 1) h))]) (wu_river_orc_ok) pX_ok_RX10 wu_river_code_ok (px_k1 (px_ko (ts := [0, 1]) (ss := []) fun ls st h q e => wu_river_47_ok _ _ _ e) px_k0) 29 26 _ _ h q e
set_option maxRecDepth 200000 in
theorem wu_river_ok {d : Nat} {h : pH} {q : Int32 × pH} (e : wu_river h = some q) : px_Con (d + 5) 122 [.inr (.inl 0)] h q :=
  px_con (X := pX_RX10) (b := prog_1_method_4_code) (nL := 2) (rt := (some .int)) rfl rfl (Nat.le_of_ble_eq_true rfl) rfl (px_blk_ok (d := d + 4) (M := (pX_RX10, prog_1_method_4_code, 2, (some .int))) (C := wu_river_orc) (code := wu_river_code) (ld := [26]) (kl := [(26, fun ls st h => px_if (px_fit [10, 0] ls && px_fits [1] st) (wu_river_26 (px_si st 0) h))]) (wu_river_orc_ok) pX_ok_RX10 wu_river_code_ok (px_k1 (px_ko (ts := [10, 0]) (ss := [1]) fun ls st h q e => wu_river_26_ok _ _ _ e) px_k0) 29 0 _ _ _ q e)
/-! WordsUnsaid.house()I -/
noncomputable def wu_house_32 (x1 : Int32) (h : pH) : pR :=
  some (x1, h)
noncomputable def wu_house (h : pH) : pR :=
  px_bind (hs_read h) fun z1 h2 =>
  px_bind (tx_cut (px_c 0) h2) fun z3 h4 =>
  if z1 ≤ 0 then
    wu_house_32 z1 h4
  else
    px_bind (me_forgetAll h4) fun _ h6 =>
    wu_house_32 z1 h6
def wu_house_code : pCode := [(0, .aload_n 0, 1), (1, .getfield 19, 3), (4, .aload_n 0, 1), (5, .getfield 10, 3), (8, .invokevirtual 108, 3), (11, .istore_n 1, 1), (12, .aload_n 0, 1), (13, .getfield 10, 3), (16, .iconst 0, 1), (17, .invokevirtual 94, 3), (20, .pop, 1), (21, .iload_n 1, 1), (22, .ifCond .le (10), 3), (25, .aload_n 0, 1), (26, .getfield 61, 3), (29, .invokevirtual 105, 3), (32, .iload_n 1, 1), (33, .ireturn, 1)]
set_option maxRecDepth 200000 in
theorem wu_house_code_ok : px_code prog_1_method_5_code wu_house_code = true := by decide +kernel
noncomputable def wu_house_orc : pC := px_orc [(20, fun a h => match a with
    | [.inr (.inl 3), .inr (.inl 1)] => hs_read h
    | _ => none), (87, fun a h => match a with
    | [.inr (.inl 1), .inl v1] => tx_cut v1 h
    | _ => none), (57, fun a h => match a with
    | [.inr (.inl 41)] => me_forgetAll h
    | _ => none)]
theorem wu_house_orc_ok {d : Nat} : px_Or (d + 6) (wu_house_orc) := px_orc_ok (by
  refine px_o1 (fun a h q e => by
    dsimp only at e
    split at e
    · exact hs_read_ok (d := d + 0) e
    · cases e) ?_
  refine px_o1 (fun a h q e => by
    dsimp only at e
    split at e
    · exact tx_cut_ok (d := d + 5) e
    · cases e) ?_
  refine px_o1 (fun a h q e => by
    dsimp only at e
    split at e
    · exact me_forgetAll_ok (d := d + 5) e
    · cases e) ?_
  exact px_o0)
set_option maxRecDepth 200000 in
theorem wu_house_32_ok {d : Nat} : ∀ (x1 : Int32) (h : pH) (q : Int32 × pH), wu_house_32 x1 h = some q → px_G (d + 6 + 1) (pX_RX10, prog_1_method_5_code, 2, (some .int)) 32 [none, some (.inl x1)] [] h q := by
  intro x1 h q e
  exact px_blk_ok (d := d + 6) (M := (pX_RX10, prog_1_method_5_code, 2, (some .int))) (C := wu_house_orc) (code := wu_house_code) (ld := []) (kl := []) (wu_house_orc_ok) pX_ok_RX10 wu_house_code_ok (px_k0) 23 32 _ _ h q e
set_option maxRecDepth 200000 in
theorem wu_house_ok {d : Nat} {h : pH} {q : Int32 × pH} (e : wu_house h = some q) : px_Con (d + 7) 123 [.inr (.inl 0)] h q :=
  px_con (X := pX_RX10) (b := prog_1_method_5_code) (nL := 2) (rt := (some .int)) rfl rfl (Nat.le_of_ble_eq_true rfl) rfl (px_blk_ok (d := d + 6) (M := (pX_RX10, prog_1_method_5_code, 2, (some .int))) (C := wu_house_orc) (code := wu_house_code) (ld := [32]) (kl := [(32, fun ls st h => px_if (px_fit [0, 1] ls && px_fits [] st) (wu_house_32 (px_gi ls 1) h))]) (wu_house_orc_ok) pX_ok_RX10 wu_house_code_ok (px_k1 (px_ko (ts := [0, 1]) (ss := []) fun ls st h q e => wu_house_32_ok _ _ _ e) px_k0) 23 0 _ _ _ q e)
/-! WordsUnsaid.rule()I -/
noncomputable def wu_rule (h : pH) : pR :=
  px_bind (ru_read h) fun z1 h2 =>
  px_bind (tx_cut (px_c 0) h2) fun z3 h4 =>
  some (z1, h4)
def wu_rule_code : pCode := [(0, .aload_n 0, 1), (1, .getfield 33, 3), (4, .aload_n 0, 1), (5, .getfield 10, 3), (8, .invokevirtual 109, 3), (11, .istore_n 1, 1), (12, .aload_n 0, 1), (13, .getfield 10, 3), (16, .iconst 0, 1), (17, .invokevirtual 94, 3), (20, .pop, 1), (21, .iload_n 1, 1), (22, .ireturn, 1)]
set_option maxRecDepth 200000 in
theorem wu_rule_code_ok : px_code prog_1_method_6_code wu_rule_code = true := by decide +kernel
noncomputable def wu_rule_orc : pC := px_orc [(66, fun a h => match a with
    | [.inr (.inl 17), .inr (.inl 1)] => ru_read h
    | _ => none), (87, fun a h => match a with
    | [.inr (.inl 1), .inl v1] => tx_cut v1 h
    | _ => none)]
theorem wu_rule_orc_ok {d : Nat} : px_Or (d + 6) (wu_rule_orc) := px_orc_ok (by
  refine px_o1 (fun a h q e => by
    dsimp only at e
    split at e
    · exact ru_read_ok (d := d + 0) e
    · cases e) ?_
  refine px_o1 (fun a h q e => by
    dsimp only at e
    split at e
    · exact tx_cut_ok (d := d + 5) e
    · cases e) ?_
  exact px_o0)
set_option maxRecDepth 200000 in
theorem wu_rule_ok {d : Nat} {h : pH} {q : Int32 × pH} (e : wu_rule h = some q) : px_Con (d + 7) 124 [.inr (.inl 0)] h q :=
  px_con (X := pX_RX10) (b := prog_1_method_6_code) (nL := 2) (rt := (some .int)) rfl rfl (Nat.le_of_ble_eq_true rfl) rfl (px_blk_ok (d := d + 6) (M := (pX_RX10, prog_1_method_6_code, 2, (some .int))) (C := wu_rule_orc) (code := wu_rule_code) (ld := []) (kl := []) (wu_rule_orc_ok) pX_ok_RX10 wu_rule_code_ok (px_k0) 18 0 _ _ _ q e)
/-! WordsUnsaid.person(II)I -/
noncomputable def wu_person (x1 : Int32) (x2 : Int32) (h : pH) : pR :=
  px_bind (hs_hasPerson x1 h) fun z1 h2 =>
  if z1 = 0 then
    none
  else
    if x2 = px_c 0 then
      px_bind (wu_at 4 x1 h2) fun z3 h4 =>
      some (z3, h4)
    else
    if x2 = px_c 1 then
      px_bind (wu_at 5 x1 h2) fun z5 h6 =>
      some (z5, h6)
    else
    if x2 = px_c 2 then
      px_bind (hs_thingsOf ((px_c 1) <<< (x1 &&& 31)) h2) fun z7 h8 =>
      some (z7, h8)
    else
    if x2 = px_c 3 then
      px_bind (hs_knownBy x1 h2) fun z9 h10 =>
      some (z9, h10)
    else
    if x2 = px_c 4 then
      px_bind (hs_unsaidOf ((px_c 1) <<< (x1 &&& 31)) h2) fun z11 h12 =>
      px_bind (hs_wordsLeft z11 h12) fun z13 h14 =>
      some (z13, h14)
    else
    if x2 = px_c 5 then
      px_bind (wu_at 6 x1 h2) fun z15 h16 =>
      some (z15, h16)
    else
      none
def wu_person_code : pCode := [(0, .aload_n 0, 1), (1, .getfield 19, 3), (4, .iload_n 1, 1), (5, .invokevirtual 110, 3), (8, .ifCond .ne (13), 3), (11, .new 113, 3), (14, .dup, 1), (15, .ldc 115, 2), (17, .invokespecial 117, 3), (20, .athrow, 1), (21, .iload_n 2, 1), (22, .tableswitch (112) (0) (5) #[38, 50, 62, 73, 82, 100], 38), (60, .aload_n 0, 1), (61, .getfield 19, 3), (64, .getfield 120, 3), (67, .iload_n 1, 1), (68, .invokestatic 124, 3), (71, .ireturn, 1), (72, .aload_n 0, 1), (73, .getfield 19, 3), (76, .getfield 128, 3), (79, .iload_n 1, 1), (80, .invokestatic 124, 3), (83, .ireturn, 1), (84, .aload_n 0, 1), (85, .getfield 19, 3), (88, .iconst 1, 1), (89, .iload_n 1, 1), (90, .ishl, 1), (91, .invokevirtual 131, 3), (94, .ireturn, 1), (95, .aload_n 0, 1), (96, .getfield 19, 3), (99, .iload_n 1, 1), (100, .invokevirtual 135, 3), (103, .ireturn, 1), (104, .aload_n 0, 1), (105, .getfield 19, 3), (108, .aload_n 0, 1), (109, .getfield 19, 3), (112, .iconst 1, 1), (113, .iload_n 1, 1), (114, .ishl, 1), (115, .invokevirtual 138, 3), (118, .invokevirtual 141, 3), (121, .ireturn, 1), (122, .aload_n 0, 1), (123, .getfield 19, 3), (126, .getfield 144, 3), (129, .iload_n 1, 1), (130, .invokestatic 124, 3), (133, .ireturn, 1), (134, .new 113, 3), (137, .dup, 1), (138, .ldc 147, 2), (140, .invokespecial 117, 3), (143, .athrow, 1)]
set_option maxRecDepth 200000 in
theorem wu_person_code_ok : px_code prog_1_method_7_code wu_person_code = true := by decide +kernel
noncomputable def wu_person_orc : pC := px_orc [(25, fun a h => match a with
    | [.inr (.inl 3), .inl v1] => hs_hasPerson v1 h
    | _ => none), (158, fun a h => match a with
    | [.inr (.inl v0), .inl v1] => wu_at v0 v1 h
    | _ => none), (30, fun a h => match a with
    | [.inr (.inl 3), .inl v1] => hs_thingsOf v1 h
    | _ => none), (34, fun a h => match a with
    | [.inr (.inl 3), .inl v1] => hs_knownBy v1 h
    | _ => none), (32, fun a h => match a with
    | [.inr (.inl 3), .inl v1] => hs_unsaidOf v1 h
    | _ => none), (36, fun a h => match a with
    | [.inr (.inl 3), .inl v1] => hs_wordsLeft v1 h
    | _ => none)]
theorem wu_person_orc_ok {d : Nat} : px_Or (d + 3) (wu_person_orc) := px_orc_ok (by
  refine px_o1 (fun a h q e => by
    dsimp only at e
    split at e
    · exact hs_hasPerson_ok (d := d + 2) e
    · cases e) ?_
  refine px_o1 (fun a h q e => by
    dsimp only at e
    split at e
    · exact wu_at_ok (d := d + 2) e
    · cases e) ?_
  refine px_o1 (fun a h q e => by
    dsimp only at e
    split at e
    · exact hs_thingsOf_ok (d := d + 1) e
    · cases e) ?_
  refine px_o1 (fun a h q e => by
    dsimp only at e
    split at e
    · exact hs_knownBy_ok (d := d + 1) e
    · cases e) ?_
  refine px_o1 (fun a h q e => by
    dsimp only at e
    split at e
    · exact hs_unsaidOf_ok (d := d + 0) e
    · cases e) ?_
  refine px_o1 (fun a h q e => by
    dsimp only at e
    split at e
    · exact hs_wordsLeft_ok (d := d + 1) e
    · cases e) ?_
  exact px_o0)
set_option maxRecDepth 200000 in
theorem wu_person_ok {d : Nat} {x1 : Int32} {x2 : Int32} {h : pH} {q : Int32 × pH} (e : wu_person x1 x2 h = some q) : px_Con (d + 4) 125 [.inr (.inl 0), .inl x1, .inl x2] h q :=
  px_con (X := pX_RX10) (b := prog_1_method_7_code) (nL := 3) (rt := (some .int)) rfl rfl (Nat.le_of_ble_eq_true rfl) rfl (px_blk_ok (d := d + 3) (M := (pX_RX10, prog_1_method_7_code, 3, (some .int))) (C := wu_person_orc) (code := wu_person_code) (ld := []) (kl := []) (wu_person_orc_ok) pX_ok_RX10 wu_person_code_ok (px_k0) 62 0 _ _ _ q e)
/-! WordsUnsaid.thing(II)I -/
noncomputable def wu_thing (x1 : Int32) (x2 : Int32) (h : pH) : pR :=
  px_bind (hs_hasThing x1 h) fun z1 h2 =>
  if z1 = 0 then
    none
  else
    if x2 = px_c 0 then
      px_bind (wu_at 7 x1 h2) fun z3 h4 =>
      some (z3, h4)
    else
    if x2 = px_c 1 then
      px_bind (wu_at 8 x1 h2) fun z5 h6 =>
      some (z5, h6)
    else
    if x2 = px_c 2 then
      px_bind (wu_at 9 x1 h2) fun z7 h8 =>
      some (z7, h8)
    else
    if x2 = px_c 3 then
      px_bind (wu_at 10 x1 h2) fun z9 h10 =>
      some (z9, h10)
    else
    if x2 = px_c 4 then
      px_bind (wu_at 11 x1 h2) fun z11 h12 =>
      some (z11, h12)
    else
    if x2 = px_c 5 then
      px_bind (wu_at 12 x1 h2) fun z13 h14 =>
      some (z13, h14)
    else
    if x2 = px_c 6 then
      px_bind (wu_at 13 x1 h2) fun z15 h16 =>
      some (z15, h16)
    else
      none
def wu_thing_code : pCode := [(0, .aload_n 0, 1), (1, .getfield 19, 3), (4, .iload_n 1, 1), (5, .invokevirtual 149, 3), (8, .ifCond .ne (13), 3), (11, .new 113, 3), (14, .dup, 1), (15, .ldc 152, 2), (17, .invokespecial 117, 3), (20, .athrow, 1), (21, .iload_n 2, 1), (22, .tableswitch (126) (0) (6) #[42, 54, 66, 78, 90, 102, 114], 42), (64, .aload_n 0, 1), (65, .getfield 19, 3), (68, .getfield 154, 3), (71, .iload_n 1, 1), (72, .invokestatic 124, 3), (75, .ireturn, 1), (76, .aload_n 0, 1), (77, .getfield 19, 3), (80, .getfield 157, 3), (83, .iload_n 1, 1), (84, .invokestatic 124, 3), (87, .ireturn, 1), (88, .aload_n 0, 1), (89, .getfield 19, 3), (92, .getfield 160, 3), (95, .iload_n 1, 1), (96, .invokestatic 124, 3), (99, .ireturn, 1), (100, .aload_n 0, 1), (101, .getfield 19, 3), (104, .getfield 163, 3), (107, .iload_n 1, 1), (108, .invokestatic 124, 3), (111, .ireturn, 1), (112, .aload_n 0, 1), (113, .getfield 19, 3), (116, .getfield 166, 3), (119, .iload_n 1, 1), (120, .invokestatic 124, 3), (123, .ireturn, 1), (124, .aload_n 0, 1), (125, .getfield 19, 3), (128, .getfield 169, 3), (131, .iload_n 1, 1), (132, .invokestatic 124, 3), (135, .ireturn, 1), (136, .aload_n 0, 1), (137, .getfield 19, 3), (140, .getfield 172, 3), (143, .iload_n 1, 1), (144, .invokestatic 124, 3), (147, .ireturn, 1), (148, .new 113, 3), (151, .dup, 1), (152, .ldc 175, 2), (154, .invokespecial 117, 3), (157, .athrow, 1)]
set_option maxRecDepth 200000 in
theorem wu_thing_code_ok : px_code prog_1_method_8_code wu_thing_code = true := by decide +kernel
noncomputable def wu_thing_orc : pC := px_orc [(26, fun a h => match a with
    | [.inr (.inl 3), .inl v1] => hs_hasThing v1 h
    | _ => none), (158, fun a h => match a with
    | [.inr (.inl v0), .inl v1] => wu_at v0 v1 h
    | _ => none)]
theorem wu_thing_orc_ok {d : Nat} : px_Or (d + 1) (wu_thing_orc) := px_orc_ok (by
  refine px_o1 (fun a h q e => by
    dsimp only at e
    split at e
    · exact hs_hasThing_ok (d := d + 0) e
    · cases e) ?_
  refine px_o1 (fun a h q e => by
    dsimp only at e
    split at e
    · exact wu_at_ok (d := d + 0) e
    · cases e) ?_
  exact px_o0)
set_option maxRecDepth 200000 in
theorem wu_thing_ok {d : Nat} {x1 : Int32} {x2 : Int32} {h : pH} {q : Int32 × pH} (e : wu_thing x1 x2 h = some q) : px_Con (d + 2) 126 [.inr (.inl 0), .inl x1, .inl x2] h q :=
  px_con (X := pX_RX10) (b := prog_1_method_8_code) (nL := 3) (rt := (some .int)) rfl rfl (Nat.le_of_ble_eq_true rfl) rfl (px_blk_ok (d := d + 1) (M := (pX_RX10, prog_1_method_8_code, 3, (some .int))) (C := wu_thing_orc) (code := wu_thing_code) (ld := []) (kl := []) (wu_thing_orc_ok) pX_ok_RX10 wu_thing_code_ok (px_k0) 64 0 _ _ _ q e)
/-! WordsUnsaid.islet(I)I -/
noncomputable def wu_islet_26 (s0 : Int32) (h : pH) : pR :=
  some (s0, h)
noncomputable def wu_islet (x1 : Int32) (h : pH) : pR :=
  px_bind (rv_hasIslet x1 h) fun z1 h2 =>
  if z1 = 0 then
    wu_islet_26 (px_c (-1)) h2
  else
    px_bind (wu_at 15 x1 h2) fun z3 h4 =>
    wu_islet_26 z3 h4
def wu_islet_code : pCode := [(0, .aload_n 0, 1), (1, .getfield 26, 3), (4, .iload_n 1, 1), (5, .invokevirtual 177, 3), (8, .ifCond .eq (17), 3), (11, .aload_n 0, 1), (12, .getfield 26, 3), (15, .getfield 180, 3), (18, .iload_n 1, 1), (19, .invokestatic 124, 3), (22, .goto (4), 3), (25, .iconst (-1), 1), (26, .ireturn, 1)]
set_option maxRecDepth 200000 in
theorem wu_islet_code_ok : px_code prog_1_method_9_code wu_islet_code = true := by decide +kernel
noncomputable def wu_islet_orc : pC := px_orc [(61, fun a h => match a with
    | [.inr (.inl 14), .inl v1] => rv_hasIslet v1 h
    | _ => none), (158, fun a h => match a with
    | [.inr (.inl v0), .inl v1] => wu_at v0 v1 h
    | _ => none)]
theorem wu_islet_orc_ok {d : Nat} : px_Or (d + 1) (wu_islet_orc) := px_orc_ok (by
  refine px_o1 (fun a h q e => by
    dsimp only at e
    split at e
    · exact rv_hasIslet_ok (d := d + 0) e
    · cases e) ?_
  refine px_o1 (fun a h q e => by
    dsimp only at e
    split at e
    · exact wu_at_ok (d := d + 0) e
    · cases e) ?_
  exact px_o0)
set_option maxRecDepth 200000 in
theorem wu_islet_26_ok {d : Nat} : ∀ (s0 : Int32) (h : pH) (q : Int32 × pH), wu_islet_26 s0 h = some q → px_G (d + 1 + 1) (pX_RX10, prog_1_method_9_code, 2, (some .int)) 26 [none, none] [.inl s0] h q := by
  intro s0 h q e
  exact px_blk_ok (d := d + 1) (M := (pX_RX10, prog_1_method_9_code, 2, (some .int))) (C := wu_islet_orc) (code := wu_islet_code) (ld := []) (kl := []) (wu_islet_orc_ok) pX_ok_RX10 wu_islet_code_ok (px_k0) 18 26 _ _ h q e
set_option maxRecDepth 200000 in
theorem wu_islet_ok {d : Nat} {x1 : Int32} {h : pH} {q : Int32 × pH} (e : wu_islet x1 h = some q) : px_Con (d + 2) 127 [.inr (.inl 0), .inl x1] h q :=
  px_con (X := pX_RX10) (b := prog_1_method_9_code) (nL := 2) (rt := (some .int)) rfl rfl (Nat.le_of_ble_eq_true rfl) rfl (px_blk_ok (d := d + 1) (M := (pX_RX10, prog_1_method_9_code, 2, (some .int))) (C := wu_islet_orc) (code := wu_islet_code) (ld := [26]) (kl := [(26, fun ls st h => px_if (px_fit [0, 0] ls && px_fits [1] st) (wu_islet_26 (px_si st 0) h))]) (wu_islet_orc_ok) pX_ok_RX10 wu_islet_code_ok (px_k1 (px_ko (ts := [0, 0]) (ss := [1]) fun ls st h q e => wu_islet_26_ok _ _ _ e) px_k0) 18 0 _ _ _ q e)
/-! WordsUnsaid.hold(II)I -/
noncomputable def wu_hold_22 (h : pH) : pR :=
  some (px_c (-1), h)
noncomputable def wu_hold (x1 : Int32) (x2 : Int32) (h : pH) : pR :=
  px_bind (hs_hasPerson x1 h) fun z1 h2 =>
  if z1 = 0 then
    wu_hold_22 h2
  else
    if x2 < (px_c 1) then
      wu_hold_22 h2
    else
      if x2 ≤ (px_c 99) then
        px_bind (wu_at 4 x1 h2) fun z3 h4 =>
        px_bind (wu_put 4 x1 x2 h4) fun _ h6 =>
        some (z3, h6)
      else
        wu_hold_22 h2
def wu_hold_code : pCode := [(0, .aload_n 0, 1), (1, .getfield 19, 3), (4, .iload_n 1, 1), (5, .invokevirtual 110, 3), (8, .ifCond .eq (14), 3), (11, .iload_n 2, 1), (12, .iconst 1, 1), (13, .if_icmp .lt (9), 3), (16, .iload_n 2, 1), (17, .bipush (99), 2), (19, .if_icmp .le (5), 3), (22, .iconst (-1), 1), (23, .ireturn, 1), (24, .aload_n 0, 1), (25, .getfield 19, 3), (28, .getfield 120, 3), (31, .iload_n 1, 1), (32, .invokestatic 124, 3), (35, .istore_n 3, 1), (36, .aload_n 0, 1), (37, .getfield 19, 3), (40, .getfield 120, 3), (43, .iload_n 1, 1), (44, .iload_n 2, 1), (45, .invokestatic 183, 3), (48, .iload_n 3, 1), (49, .ireturn, 1)]
set_option maxRecDepth 200000 in
theorem wu_hold_code_ok : px_code prog_1_method_10_code wu_hold_code = true := by decide +kernel
noncomputable def wu_hold_orc : pC := px_orc [(25, fun a h => match a with
    | [.inr (.inl 3), .inl v1] => hs_hasPerson v1 h
    | _ => none), (158, fun a h => match a with
    | [.inr (.inl v0), .inl v1] => wu_at v0 v1 h
    | _ => none), (159, fun a h => match a with
    | [.inr (.inl v0), .inl v1, .inl v2] => wu_put v0 v1 v2 h
    | _ => none)]
theorem wu_hold_orc_ok {d : Nat} : px_Or (d + 1) (wu_hold_orc) := px_orc_ok (by
  refine px_o1 (fun a h q e => by
    dsimp only at e
    split at e
    · exact hs_hasPerson_ok (d := d + 0) e
    · cases e) ?_
  refine px_o1 (fun a h q e => by
    dsimp only at e
    split at e
    · exact wu_at_ok (d := d + 0) e
    · cases e) ?_
  refine px_o1 (fun a h q e => by
    dsimp only at e
    split at e
    · exact wu_put_ok (d := d + 0) e
    · cases e) ?_
  exact px_o0)
set_option maxRecDepth 200000 in
theorem wu_hold_22_ok {d : Nat} : ∀ (h : pH) (q : Int32 × pH), wu_hold_22 h = some q → px_G (d + 1 + 1) (pX_RX10, prog_1_method_10_code, 4, (some .int)) 22 [none, none, none, none] [] h q := by
  intro h q e
  exact px_blk_ok (d := d + 1) (M := (pX_RX10, prog_1_method_10_code, 4, (some .int))) (C := wu_hold_orc) (code := wu_hold_code) (ld := []) (kl := []) (wu_hold_orc_ok) pX_ok_RX10 wu_hold_code_ok (px_k0) 32 22 _ _ h q e
set_option maxRecDepth 200000 in
theorem wu_hold_ok {d : Nat} {x1 : Int32} {x2 : Int32} {h : pH} {q : Int32 × pH} (e : wu_hold x1 x2 h = some q) : px_Con (d + 2) 128 [.inr (.inl 0), .inl x1, .inl x2] h q :=
  px_con (X := pX_RX10) (b := prog_1_method_10_code) (nL := 4) (rt := (some .int)) rfl rfl (Nat.le_of_ble_eq_true rfl) rfl (px_blk_ok (d := d + 1) (M := (pX_RX10, prog_1_method_10_code, 4, (some .int))) (C := wu_hold_orc) (code := wu_hold_code) (ld := [22]) (kl := [(22, fun ls st h => px_if (px_fit [0, 0, 0, 0] ls && px_fits [] st) (wu_hold_22 h))]) (wu_hold_orc_ok) pX_ok_RX10 wu_hold_code_ok (px_k1 (px_ko (ts := [0, 0, 0, 0]) (ss := []) fun ls st h q e => wu_hold_22_ok _ _ e) px_k0) 32 0 _ _ _ q e)
/-! WordsUnsaid.sheet(IIII)I -/
noncomputable def wu_sheet_15 (h : pH) : pR :=
  some (px_c (-1), h)
noncomputable def wu_sheet_126 (s0 : Int32) (h : pH) : pR :=
  some (s0, h)
noncomputable def wu_sheet_85 (r47 : Int32 → Int32 → Int32 → Int32 → Int32 → Int32 → Int32 → pH → pR) (x1 : Int32) (x2 : Int32) (x3 : Int32) (x4 : Int32) (x5 : Int32) (x6 : Int32) (x7 : Int32) (s0 : Int32) (h : pH) : pR :=
  px_bind (wu_put 9 x7 s0 h) fun _ h2 =>
  let y6_3 := x6 + s0
  r47 x1 x2 x3 x4 x5 y6_3 (x7 + px_c 1) h2
noncomputable def wu_sheet_70 (r47 : Int32 → Int32 → Int32 → Int32 → Int32 → Int32 → Int32 → pH → pR) (x1 : Int32) (x2 : Int32) (x3 : Int32) (x4 : Int32) (x5 : Int32) (x6 : Int32) (x7 : Int32) (h : pH) : pR :=
  wu_sheet_85 r47 x1 x2 x3 x4 x5 x6 x7 (px_c 0) h
noncomputable def wu_sheet_47 : Nat → Int32 → Int32 → Int32 → Int32 → Int32 → Int32 → Int32 → pH → pR
  | 0, _, _, _, _, _, _, _, _ => none
  | n + 1, x1, x2, x3, x4, x5, x6, x7, h =>
    if (h 3 11) ≤ x7 then
      if x5 = 0 then
        wu_sheet_126 x6 h
      else
        wu_sheet_126 (px_c (-3)) h
    else
      if x5 = 0 then
        if x7 < x2 then
          px_bind (wu_pressOf x1 (x3 + (x7 * x4)) h) fun z1 h2 =>
          wu_sheet_85 (wu_sheet_47 n) x1 x2 x3 x4 x5 x6 x7 z1 h2
        else
          wu_sheet_70 (wu_sheet_47 n) x1 x2 x3 x4 x5 x6 x7 h
      else
        wu_sheet_70 (wu_sheet_47 n) x1 x2 x3 x4 x5 x6 x7 h
noncomputable def wu_sheet_41 (x1 : Int32) (x2 : Int32) (x3 : Int32) (x4 : Int32) (x5 : Int32) (h : pH) : pR :=
  wu_sheet_47 px_F x1 x2 x3 x4 x5 (px_c 0) (px_c 0) h
noncomputable def wu_sheet_27 (x1 : Int32) (x2 : Int32) (x3 : Int32) (x4 : Int32) (s0 : Int32) (h : pH) : pR :=
  if s0 = 0 then
    if 0 ≤ x2 then
      wu_sheet_41 x1 x2 x3 x4 s0 h
    else
      some (px_c (-2), h)
  else
    wu_sheet_41 x1 x2 x3 x4 s0 h
noncomputable def wu_sheet (x1 : Int32) (x2 : Int32) (x3 : Int32) (x4 : Int32) (h : pH) : pR :=
  if x1 < 0 then
    wu_sheet_15 h
  else
    if (px_c 3) < x1 then
      wu_sheet_15 h
    else
      if x2 ≤ (px_c 10) then
        if x1 = (px_c 3) then
          wu_sheet_27 x1 x2 x3 x4 (px_c 1) h
        else
          wu_sheet_27 x1 x2 x3 x4 (px_c 0) h
      else
        wu_sheet_15 h
def wu_sheet_code : pCode := [(0, .iload_n 1, 1), (1, .ifCond .lt (14), 3), (4, .iload_n 1, 1), (5, .iconst 3, 1), (6, .if_icmp .gt (9), 3), (9, .iload_n 2, 1), (10, .bipush (10), 2), (12, .if_icmp .le (5), 3), (15, .iconst (-1), 1), (16, .ireturn, 1), (17, .iload_n 1, 1), (18, .iconst 3, 1), (19, .if_icmp .ne (7), 3), (22, .iconst 1, 1), (23, .goto (4), 3), (26, .iconst 0, 1), (27, .istore 5, 2), (29, .iload 5, 2), (31, .ifCond .ne (10), 3), (34, .iload_n 2, 1), (35, .ifCond .ge (6), 3), (38, .bipush (-2), 2), (40, .ireturn, 1), (41, .iconst 0, 1), (42, .istore 6, 2), (44, .iconst 0, 1), (45, .istore 7, 2), (47, .iload 7, 2), (49, .aload_n 0, 1), (50, .getfield 19, 3), (53, .getfield 187, 3), (56, .if_icmp .ge (58), 3), (59, .iload 5, 2), (61, .ifCond .ne (9), 3), (64, .iload 7, 2), (66, .iload_n 2, 1), (67, .if_icmp .lt (7), 3), (70, .iconst 0, 1), (71, .goto (14), 3), (74, .iload_n 1, 1), (75, .iload_n 3, 1), (76, .iload 7, 2), (78, .iload 4, 2), (80, .imul, 1), (81, .iadd, 1), (82, .invokestatic 190, 3), (85, .istore 8, 2), (87, .aload_n 0, 1), (88, .getfield 19, 3), (91, .getfield 160, 3), (94, .iload 7, 2), (96, .iload 8, 2), (98, .invokestatic 183, 3), (101, .iload 6, 2), (103, .iload 8, 2), (105, .iadd, 1), (106, .istore 6, 2), (108, .iinc 7 (1), 3), (111, .goto (-64), 3), (114, .iload 5, 2), (116, .ifCond .eq (8), 3), (119, .bipush (-3), 2), (121, .goto (5), 3), (124, .iload 6, 2), (126, .ireturn, 1)]
set_option maxRecDepth 200000 in
theorem wu_sheet_code_ok : px_code prog_1_method_11_code wu_sheet_code = true := by decide +kernel
noncomputable def wu_sheet_orc : pC := px_orc [(159, fun a h => match a with
    | [.inr (.inl v0), .inl v1, .inl v2] => wu_put v0 v1 v2 h
    | _ => none), (162, fun a h => match a with
    | [.inl v0, .inl v1] => wu_pressOf v0 v1 h
    | _ => none)]
theorem wu_sheet_orc_ok {d : Nat} : px_Or (d + 1) (wu_sheet_orc) := px_orc_ok (by
  refine px_o1 (fun a h q e => by
    dsimp only at e
    split at e
    · exact wu_put_ok (d := d + 0) e
    · cases e) ?_
  refine px_o1 (fun a h q e => by
    dsimp only at e
    split at e
    · exact wu_pressOf_ok (d := d + 0) e
    · cases e) ?_
  exact px_o0)
set_option maxRecDepth 200000 in
theorem wu_sheet_15_ok {d : Nat} : ∀ (h : pH) (q : Int32 × pH), wu_sheet_15 h = some q → px_G (d + 1 + 1) (pX_RX10, prog_1_method_11_code, 9, (some .int)) 15 [none, none, none, none, none, none, none, none, none] [] h q := by
  intro h q e
  exact px_blk_ok (d := d + 1) (M := (pX_RX10, prog_1_method_11_code, 9, (some .int))) (C := wu_sheet_orc) (code := wu_sheet_code) (ld := []) (kl := []) (wu_sheet_orc_ok) pX_ok_RX10 wu_sheet_code_ok (px_k0) 70 15 _ _ h q e
set_option maxRecDepth 200000 in
theorem wu_sheet_126_ok {d : Nat} : ∀ (s0 : Int32) (h : pH) (q : Int32 × pH), wu_sheet_126 s0 h = some q → px_G (d + 1 + 1) (pX_RX10, prog_1_method_11_code, 9, (some .int)) 126 [none, none, none, none, none, none, none, none, none] [.inl s0] h q := by
  intro s0 h q e
  exact px_blk_ok (d := d + 1) (M := (pX_RX10, prog_1_method_11_code, 9, (some .int))) (C := wu_sheet_orc) (code := wu_sheet_code) (ld := []) (kl := []) (wu_sheet_orc_ok) pX_ok_RX10 wu_sheet_code_ok (px_k0) 70 126 _ _ h q e
set_option maxRecDepth 200000 in
theorem wu_sheet_85_ok {d : Nat} {r47 : Int32 → Int32 → Int32 → Int32 → Int32 → Int32 → Int32 → pH → pR} (hr47 : ∀ (x1 : Int32) (x2 : Int32) (x3 : Int32) (x4 : Int32) (x5 : Int32) (x6 : Int32) (x7 : Int32) (h : pH) (q : Int32 × pH), r47 x1 x2 x3 x4 x5 x6 x7 h = some q → px_G (d + 1 + 1) (pX_RX10, prog_1_method_11_code, 9, (some .int)) 47 [some (.inr (.inl 0)), some (.inl x1), some (.inl x2), some (.inl x3), some (.inl x4), some (.inl x5), some (.inl x6), some (.inl x7), none] [] h q) : ∀ (x1 : Int32) (x2 : Int32) (x3 : Int32) (x4 : Int32) (x5 : Int32) (x6 : Int32) (x7 : Int32) (s0 : Int32) (h : pH) (q : Int32 × pH), wu_sheet_85 r47 x1 x2 x3 x4 x5 x6 x7 s0 h = some q → px_G (d + 1 + 1) (pX_RX10, prog_1_method_11_code, 9, (some .int)) 85 [some (.inr (.inl 0)), some (.inl x1), some (.inl x2), some (.inl x3), some (.inl x4), some (.inl x5), some (.inl x6), some (.inl x7), none] [.inl s0] h q := by
  intro x1 x2 x3 x4 x5 x6 x7 s0 h q e
  exact px_blk_ok (d := d + 1) (M := (pX_RX10, prog_1_method_11_code, 9, (some .int))) (C := wu_sheet_orc) (code := wu_sheet_code) (ld := [47]) (kl := [(47, fun ls st h => px_if (px_fit [10, 1, 1, 1, 1, 1, 1, 1, 0] ls && px_fits [] st) (r47 (px_gi ls 1) (px_gi ls 2) (px_gi ls 3) (px_gi ls 4) (px_gi ls 5) (px_gi ls 6) (px_gi ls 7) h))]) (wu_sheet_orc_ok) pX_ok_RX10 wu_sheet_code_ok (px_k1 (px_ko (ts := [10, 1, 1, 1, 1, 1, 1, 1, 0]) (ss := []) fun ls st h q e => hr47 _ _ _ _ _ _ _ _ _ e) px_k0) 70 85 _ _ h q e
set_option maxRecDepth 200000 in
theorem wu_sheet_70_ok {d : Nat} {r47 : Int32 → Int32 → Int32 → Int32 → Int32 → Int32 → Int32 → pH → pR} (hr47 : ∀ (x1 : Int32) (x2 : Int32) (x3 : Int32) (x4 : Int32) (x5 : Int32) (x6 : Int32) (x7 : Int32) (h : pH) (q : Int32 × pH), r47 x1 x2 x3 x4 x5 x6 x7 h = some q → px_G (d + 1 + 1) (pX_RX10, prog_1_method_11_code, 9, (some .int)) 47 [some (.inr (.inl 0)), some (.inl x1), some (.inl x2), some (.inl x3), some (.inl x4), some (.inl x5), some (.inl x6), some (.inl x7), none] [] h q) : ∀ (x1 : Int32) (x2 : Int32) (x3 : Int32) (x4 : Int32) (x5 : Int32) (x6 : Int32) (x7 : Int32) (h : pH) (q : Int32 × pH), wu_sheet_70 r47 x1 x2 x3 x4 x5 x6 x7 h = some q → px_G (d + 1 + 1) (pX_RX10, prog_1_method_11_code, 9, (some .int)) 70 [some (.inr (.inl 0)), some (.inl x1), some (.inl x2), some (.inl x3), some (.inl x4), some (.inl x5), some (.inl x6), some (.inl x7), none] [] h q := by
  intro x1 x2 x3 x4 x5 x6 x7 h q e
  exact px_blk_ok (d := d + 1) (M := (pX_RX10, prog_1_method_11_code, 9, (some .int))) (C := wu_sheet_orc) (code := wu_sheet_code) (ld := [85]) (kl := [(85, fun ls st h => px_if (px_fit [10, 1, 1, 1, 1, 1, 1, 1, 0] ls && px_fits [1] st) (wu_sheet_85 r47 (px_gi ls 1) (px_gi ls 2) (px_gi ls 3) (px_gi ls 4) (px_gi ls 5) (px_gi ls 6) (px_gi ls 7) (px_si st 0) h))]) (wu_sheet_orc_ok) pX_ok_RX10 wu_sheet_code_ok (px_k1 (px_ko (ts := [10, 1, 1, 1, 1, 1, 1, 1, 0]) (ss := [1]) fun ls st h q e => wu_sheet_85_ok hr47 _ _ _ _ _ _ _ _ _ _ e) px_k0) 70 70 _ _ h q e
set_option maxRecDepth 200000 in
theorem wu_sheet_47_ok {d : Nat} : ∀ (n : Nat) (x1 : Int32) (x2 : Int32) (x3 : Int32) (x4 : Int32) (x5 : Int32) (x6 : Int32) (x7 : Int32) (h : pH) (q : Int32 × pH), wu_sheet_47 n x1 x2 x3 x4 x5 x6 x7 h = some q → px_G (d + 1 + 1) (pX_RX10, prog_1_method_11_code, 9, (some .int)) 47 [some (.inr (.inl 0)), some (.inl x1), some (.inl x2), some (.inl x3), some (.inl x4), some (.inl x5), some (.inl x6), some (.inl x7), none] [] h q := by
  intro n
  induction n with
  | zero =>
    intro x1 x2 x3 x4 x5 x6 x7 h q e
    cases e
  | succ n ih =>
    intro x1 x2 x3 x4 x5 x6 x7 h q e
    exact px_blk_ok (d := d + 1) (M := (pX_RX10, prog_1_method_11_code, 9, (some .int))) (C := wu_sheet_orc) (code := wu_sheet_code) (ld := [70, 85, 126]) (kl := [(70, fun ls st h => px_if (px_fit [10, 1, 1, 1, 1, 1, 1, 1, 0] ls && px_fits [] st) (wu_sheet_70 (wu_sheet_47 n) (px_gi ls 1) (px_gi ls 2) (px_gi ls 3) (px_gi ls 4) (px_gi ls 5) (px_gi ls 6) (px_gi ls 7) h)), (85, fun ls st h => px_if (px_fit [10, 1, 1, 1, 1, 1, 1, 1, 0] ls && px_fits [1] st) (wu_sheet_85 (wu_sheet_47 n) (px_gi ls 1) (px_gi ls 2) (px_gi ls 3) (px_gi ls 4) (px_gi ls 5) (px_gi ls 6) (px_gi ls 7) (px_si st 0) h)), (126, fun ls st h => px_if (px_fit [0, 0, 0, 0, 0, 0, 0, 0, 0] ls && px_fits [1] st) (wu_sheet_126 (px_si st 0) h))]) (wu_sheet_orc_ok) pX_ok_RX10 wu_sheet_code_ok (px_k1 (px_ko (ts := [10, 1, 1, 1, 1, 1, 1, 1, 0]) (ss := []) fun ls st h q e => wu_sheet_70_ok ih _ _ _ _ _ _ _ _ _ e) (px_k1 (px_ko (ts := [10, 1, 1, 1, 1, 1, 1, 1, 0]) (ss := [1]) fun ls st h q e => wu_sheet_85_ok ih _ _ _ _ _ _ _ _ _ _ e) (px_k1 (px_ko (ts := [0, 0, 0, 0, 0, 0, 0, 0, 0]) (ss := [1]) fun ls st h q e => wu_sheet_126_ok _ _ _ e) px_k0))) 70 47 _ _ h q e
set_option maxRecDepth 200000 in
theorem wu_sheet_41_ok {d : Nat} : ∀ (x1 : Int32) (x2 : Int32) (x3 : Int32) (x4 : Int32) (x5 : Int32) (h : pH) (q : Int32 × pH), wu_sheet_41 x1 x2 x3 x4 x5 h = some q → px_G (d + 1 + 1) (pX_RX10, prog_1_method_11_code, 9, (some .int)) 41 [some (.inr (.inl 0)), some (.inl x1), some (.inl x2), some (.inl x3), some (.inl x4), some (.inl x5), none, none, none] [] h q := by
  intro x1 x2 x3 x4 x5 h q e
  exact px_blk_ok (d := d + 1) (M := (pX_RX10, prog_1_method_11_code, 9, (some .int))) (C := wu_sheet_orc) (code := wu_sheet_code) (ld := [47]) (kl := [(47, fun ls st h => px_if (px_fit [10, 1, 1, 1, 1, 1, 1, 1, 0] ls && px_fits [] st) (wu_sheet_47 px_F (px_gi ls 1) (px_gi ls 2) (px_gi ls 3) (px_gi ls 4) (px_gi ls 5) (px_gi ls 6) (px_gi ls 7) h))]) (wu_sheet_orc_ok) pX_ok_RX10 wu_sheet_code_ok (px_k1 (px_ko (ts := [10, 1, 1, 1, 1, 1, 1, 1, 0]) (ss := []) fun ls st h q e => wu_sheet_47_ok _ _ _ _ _ _ _ _ _ _ e) px_k0) 70 41 _ _ h q e
set_option maxRecDepth 200000 in
theorem wu_sheet_27_ok {d : Nat} : ∀ (x1 : Int32) (x2 : Int32) (x3 : Int32) (x4 : Int32) (s0 : Int32) (h : pH) (q : Int32 × pH), wu_sheet_27 x1 x2 x3 x4 s0 h = some q → px_G (d + 1 + 1) (pX_RX10, prog_1_method_11_code, 9, (some .int)) 27 [some (.inr (.inl 0)), some (.inl x1), some (.inl x2), some (.inl x3), some (.inl x4), none, none, none, none] [.inl s0] h q := by
  intro x1 x2 x3 x4 s0 h q e
  exact px_blk_ok (d := d + 1) (M := (pX_RX10, prog_1_method_11_code, 9, (some .int))) (C := wu_sheet_orc) (code := wu_sheet_code) (ld := [41]) (kl := [(41, fun ls st h => px_if (px_fit [10, 1, 1, 1, 1, 1, 0, 0, 0] ls && px_fits [] st) (wu_sheet_41 (px_gi ls 1) (px_gi ls 2) (px_gi ls 3) (px_gi ls 4) (px_gi ls 5) h))]) (wu_sheet_orc_ok) pX_ok_RX10 wu_sheet_code_ok (px_k1 (px_ko (ts := [10, 1, 1, 1, 1, 1, 0, 0, 0]) (ss := []) fun ls st h q e => wu_sheet_41_ok _ _ _ _ _ _ _ e) px_k0) 70 27 _ _ h q e
set_option maxRecDepth 200000 in
theorem wu_sheet_ok {d : Nat} {x1 : Int32} {x2 : Int32} {x3 : Int32} {x4 : Int32} {h : pH} {q : Int32 × pH} (e : wu_sheet x1 x2 x3 x4 h = some q) : px_Con (d + 2) 129 [.inr (.inl 0), .inl x1, .inl x2, .inl x3, .inl x4] h q :=
  px_con (X := pX_RX10) (b := prog_1_method_11_code) (nL := 9) (rt := (some .int)) rfl rfl (Nat.le_of_ble_eq_true rfl) rfl (px_blk_ok (d := d + 1) (M := (pX_RX10, prog_1_method_11_code, 9, (some .int))) (C := wu_sheet_orc) (code := wu_sheet_code) (ld := [27, 15]) (kl := [(27, fun ls st h => px_if (px_fit [10, 1, 1, 1, 1, 0, 0, 0, 0] ls && px_fits [1] st) (wu_sheet_27 (px_gi ls 1) (px_gi ls 2) (px_gi ls 3) (px_gi ls 4) (px_si st 0) h)), (15, fun ls st h => px_if (px_fit [0, 0, 0, 0, 0, 0, 0, 0, 0] ls && px_fits [] st) (wu_sheet_15 h))]) (wu_sheet_orc_ok) pX_ok_RX10 wu_sheet_code_ok (px_k1 (px_ko (ts := [10, 1, 1, 1, 1, 0, 0, 0, 0]) (ss := [1]) fun ls st h q e => wu_sheet_27_ok _ _ _ _ _ _ _ e) (px_k1 (px_ko (ts := [0, 0, 0, 0, 0, 0, 0, 0, 0]) (ss := []) fun ls st h q e => wu_sheet_15_ok _ _ e) px_k0)) 70 0 _ _ _ q e)
/-! WordsUnsaid.readRow()I -/
noncomputable def wu_readRow_74 (s0 : Int32) (h : pH) : pR :=
  some (s0, h)
noncomputable def wu_readRow_11 : Nat → Int32 → pH → pR
  | 0, _, _ => none
  | n + 1, x1, h =>
    if (h 1 1) ≤ x1 then
      if (h 1 1) = 0 then
        wu_readRow_74 (px_c (-1)) h
      else
        wu_readRow_74 (px_c 0) h
    else
      px_bind (tx_next h) fun z1 h2 =>
      px_bind (cr_take (z1 - (px_c 113)) h2) fun z3 h4 =>
      if z3 = 0 then
        some ((px_c (-1)) - x1, h4)
      else
        px_bind (tx_skip h4) fun _ h6 =>
        wu_readRow_11 n (x1 + px_c 1) h6
noncomputable def wu_readRow (h : pH) : pR :=
  px_bind (tx_open (px_c 80) h) fun _ h2 =>
  wu_readRow_11 px_F (px_c 0) h2
def wu_readRow_code : pCode := [(0, .aload_n 0, 1), (1, .getfield 10, 3), (4, .bipush (80), 2), (6, .invokevirtual 229, 3), (9, .iconst 0, 1), (10, .istore_n 1, 1), (11, .iload_n 1, 1), (12, .aload_n 0, 1), (13, .getfield 10, 3), (16, .getfield 90, 3), (19, .if_icmp .ge (40), 3), (22, .aload_n 0, 1), (23, .getfield 42, 3), (26, .aload_n 0, 1), (27, .getfield 10, 3), (30, .invokevirtual 450, 3), (33, .bipush (113), 2), (35, .isub, 1), (36, .invokevirtual 452, 3), (39, .ifCond .ne (7), 3), (42, .iconst (-1), 1), (43, .iload_n 1, 1), (44, .isub, 1), (45, .ireturn, 1), (46, .aload_n 0, 1), (47, .getfield 10, 3), (50, .invokevirtual 455, 3), (53, .iinc 1 (1), 3), (56, .goto (-45), 3), (59, .aload_n 0, 1), (60, .getfield 10, 3), (63, .getfield 90, 3), (66, .ifCond .ne (7), 3), (69, .iconst (-1), 1), (70, .goto (4), 3), (73, .iconst 0, 1), (74, .ireturn, 1)]
set_option maxRecDepth 200000 in
theorem wu_readRow_code_ok : px_code prog_1_method_46_code wu_readRow_code = true := by decide +kernel
noncomputable def wu_readRow_orc : pC := px_orc [(89, fun a h => match a with
    | [.inr (.inl 1)] => tx_next h
    | _ => none), (7, fun a h => match a with
    | [.inr (.inl 22), .inl v1] => cr_take v1 h
    | _ => none), (90, fun a h => match a with
    | [.inr (.inl 1)] => tx_skip h
    | _ => none), (88, fun a h => match a with
    | [.inr (.inl 1), .inl v1] => tx_open v1 h
    | _ => none)]
theorem wu_readRow_orc_ok {d : Nat} : px_Or (d + 3) (wu_readRow_orc) := px_orc_ok (by
  refine px_o1 (fun a h q e => by
    dsimp only at e
    split at e
    · exact tx_next_ok (d := d + 2) e
    · cases e) ?_
  refine px_o1 (fun a h q e => by
    dsimp only at e
    split at e
    · exact cr_take_ok (d := d + 0) e
    · cases e) ?_
  refine px_o1 (fun a h q e => by
    dsimp only at e
    split at e
    · exact tx_skip_ok (d := d + 2) e
    · cases e) ?_
  refine px_o1 (fun a h q e => by
    dsimp only at e
    split at e
    · exact tx_open_ok (d := d + 2) e
    · cases e) ?_
  exact px_o0)
set_option maxRecDepth 200000 in
theorem wu_readRow_74_ok {d : Nat} : ∀ (s0 : Int32) (h : pH) (q : Int32 × pH), wu_readRow_74 s0 h = some q → px_G (d + 3 + 1) (pX_RX10, prog_1_method_46_code, 2, (some .int)) 74 [none, none] [.inl s0] h q := by
  intro s0 h q e
  exact px_blk_ok (d := d + 3) (M := (pX_RX10, prog_1_method_46_code, 2, (some .int))) (C := wu_readRow_orc) (code := wu_readRow_code) (ld := []) (kl := []) (wu_readRow_orc_ok) pX_ok_RX10 wu_readRow_code_ok (px_k0) 42 74 _ _ h q e
set_option maxRecDepth 200000 in
theorem wu_readRow_11_ok {d : Nat} : ∀ (n : Nat) (x1 : Int32) (h : pH) (q : Int32 × pH), wu_readRow_11 n x1 h = some q → px_G (d + 3 + 1) (pX_RX10, prog_1_method_46_code, 2, (some .int)) 11 [some (.inr (.inl 0)), some (.inl x1)] [] h q := by
  intro n
  induction n with
  | zero =>
    intro x1 h q e
    cases e
  | succ n ih =>
    intro x1 h q e
    exact px_blk_ok (d := d + 3) (M := (pX_RX10, prog_1_method_46_code, 2, (some .int))) (C := wu_readRow_orc) (code := wu_readRow_code) (ld := [11, 74]) (kl := [(11, fun ls st h => px_if (px_fit [10, 1] ls && px_fits [] st) (wu_readRow_11 n (px_gi ls 1) h)), (74, fun ls st h => px_if (px_fit [0, 0] ls && px_fits [1] st) (wu_readRow_74 (px_si st 0) h))]) (wu_readRow_orc_ok) pX_ok_RX10 wu_readRow_code_ok (px_k1 (px_ko (ts := [10, 1]) (ss := []) fun ls st h q e => ih _ _ _ e) (px_k1 (px_ko (ts := [0, 0]) (ss := [1]) fun ls st h q e => wu_readRow_74_ok _ _ _ e) px_k0)) 42 11 _ _ h q e
set_option maxRecDepth 200000 in
theorem wu_readRow_ok {d : Nat} {h : pH} {q : Int32 × pH} (e : wu_readRow h = some q) : px_Con (d + 4) 164 [.inr (.inl 0)] h q :=
  px_con (X := pX_RX10) (b := prog_1_method_46_code) (nL := 2) (rt := (some .int)) rfl rfl (Nat.le_of_ble_eq_true rfl) rfl (px_blk_ok (d := d + 3) (M := (pX_RX10, prog_1_method_46_code, 2, (some .int))) (C := wu_readRow_orc) (code := wu_readRow_code) (ld := [11]) (kl := [(11, fun ls st h => px_if (px_fit [10, 1] ls && px_fits [] st) (wu_readRow_11 px_F (px_gi ls 1) h))]) (wu_readRow_orc_ok) pX_ok_RX10 wu_readRow_code_ok (px_k1 (px_ko (ts := [10, 1]) (ss := []) fun ls st h q e => wu_readRow_11_ok _ _ _ _ e) px_k0) 42 0 _ _ _ q e)
/-! WordsUnsaid.embark(III)I -/
noncomputable def wu_embark_52 (x4 : Int32) (h : pH) : pR :=
  some (x4, h)
noncomputable def wu_embark_22 (s0 : Int32) (h : pH) : pR :=
  px_bind (tx_cut (px_c 0) h) fun z1 h2 =>
  if s0 = 0 then
    px_bind (cr_hasWords h2) fun z3 h4 =>
    if z3 = 0 then
      some (px_c (-200), h4)
    else
      wu_embark_52 s0 h4
  else
    wu_embark_52 s0 h2
noncomputable def wu_embark (x1 : Int32) (x2 : Int32) (x3 : Int32) (h : pH) : pR :=
  px_bind (cr_begin x1 x2 x3 h) fun z1 h2 =>
  if z1 = 0 then
    wu_embark_22 (px_c (-100)) h2
  else
    px_bind (wu_readRow h2) fun z3 h4 =>
    wu_embark_22 z3 h4
def wu_embark_code : pCode := [(0, .aload_n 0, 1), (1, .getfield 42, 3), (4, .iload_n 1, 1), (5, .iload_n 2, 1), (6, .iload_n 3, 1), (7, .invokevirtual 261, 3), (10, .ifCond .eq (10), 3), (13, .aload_n 0, 1), (14, .invokevirtual 444, 3), (17, .goto (5), 3), (20, .bipush (-100), 2), (22, .istore 4, 2), (24, .aload_n 0, 1), (25, .getfield 10, 3), (28, .iconst 0, 1), (29, .invokevirtual 94, 3), (32, .pop, 1), (33, .iload 4, 2), (35, .ifCond .ne (17), 3), (38, .aload_n 0, 1), (39, .getfield 42, 3), (42, .invokevirtual 447, 3), (45, .ifCond .ne (7), 3), (48, .sipush (-200), 3), (51, .ireturn, 1), (52, .iload 4, 2), (54, .ireturn, 1)]
set_option maxRecDepth 200000 in
theorem wu_embark_code_ok : px_code prog_1_method_45_code wu_embark_code = true := by decide +kernel
noncomputable def wu_embark_orc : pC := px_orc [(87, fun a h => match a with
    | [.inr (.inl 1), .inl v1] => tx_cut v1 h
    | _ => none), (8, fun a h => match a with
    | [.inr (.inl 22)] => cr_hasWords h
    | _ => none), (5, fun a h => match a with
    | [.inr (.inl 22), .inl v1, .inl v2, .inl v3] => cr_begin v1 v2 v3 h
    | _ => none), (164, fun a h => match a with
    | [.inr (.inl 0)] => wu_readRow h
    | _ => none)]
theorem wu_embark_orc_ok {d : Nat} : px_Or (d + 5) (wu_embark_orc) := px_orc_ok (by
  refine px_o1 (fun a h q e => by
    dsimp only at e
    split at e
    · exact tx_cut_ok (d := d + 4) e
    · cases e) ?_
  refine px_o1 (fun a h q e => by
    dsimp only at e
    split at e
    · exact cr_hasWords_ok (d := d + 3) e
    · cases e) ?_
  refine px_o1 (fun a h q e => by
    dsimp only at e
    split at e
    · exact cr_begin_ok (d := d + 0) e
    · cases e) ?_
  refine px_o1 (fun a h q e => by
    dsimp only at e
    split at e
    · exact wu_readRow_ok (d := d + 1) e
    · cases e) ?_
  exact px_o0)
set_option maxRecDepth 200000 in
theorem wu_embark_52_ok {d : Nat} : ∀ (x4 : Int32) (h : pH) (q : Int32 × pH), wu_embark_52 x4 h = some q → px_G (d + 5 + 1) (pX_RX10, prog_1_method_45_code, 5, (some .int)) 52 [none, none, none, none, some (.inl x4)] [] h q := by
  intro x4 h q e
  exact px_blk_ok (d := d + 5) (M := (pX_RX10, prog_1_method_45_code, 5, (some .int))) (C := wu_embark_orc) (code := wu_embark_code) (ld := []) (kl := []) (wu_embark_orc_ok) pX_ok_RX10 wu_embark_code_ok (px_k0) 32 52 _ _ h q e
set_option maxRecDepth 200000 in
theorem wu_embark_22_ok {d : Nat} : ∀ (s0 : Int32) (h : pH) (q : Int32 × pH), wu_embark_22 s0 h = some q → px_G (d + 5 + 1) (pX_RX10, prog_1_method_45_code, 5, (some .int)) 22 [some (.inr (.inl 0)), none, none, none, none] [.inl s0] h q := by
  intro s0 h q e
  exact px_blk_ok (d := d + 5) (M := (pX_RX10, prog_1_method_45_code, 5, (some .int))) (C := wu_embark_orc) (code := wu_embark_code) (ld := [52]) (kl := [(52, fun ls st h => px_if (px_fit [0, 0, 0, 0, 1] ls && px_fits [] st) (wu_embark_52 (px_gi ls 4) h))]) (wu_embark_orc_ok) pX_ok_RX10 wu_embark_code_ok (px_k1 (px_ko (ts := [0, 0, 0, 0, 1]) (ss := []) fun ls st h q e => wu_embark_52_ok _ _ _ e) px_k0) 32 22 _ _ h q e
set_option maxRecDepth 200000 in
theorem wu_embark_ok {d : Nat} {x1 : Int32} {x2 : Int32} {x3 : Int32} {h : pH} {q : Int32 × pH} (e : wu_embark x1 x2 x3 h = some q) : px_Con (d + 6) 163 [.inr (.inl 0), .inl x1, .inl x2, .inl x3] h q :=
  px_con (X := pX_RX10) (b := prog_1_method_45_code) (nL := 5) (rt := (some .int)) rfl rfl (Nat.le_of_ble_eq_true rfl) rfl (px_blk_ok (d := d + 5) (M := (pX_RX10, prog_1_method_45_code, 5, (some .int))) (C := wu_embark_orc) (code := wu_embark_code) (ld := [22]) (kl := [(22, fun ls st h => px_if (px_fit [10, 0, 0, 0, 0] ls && px_fits [1] st) (wu_embark_22 (px_si st 0) h))]) (wu_embark_orc_ok) pX_ok_RX10 wu_embark_code_ok (px_k1 (px_ko (ts := [10, 0, 0, 0, 0]) (ss := [1]) fun ls st h q e => wu_embark_22_ok _ _ _ e) px_k0) 32 0 _ _ _ q e)
/-! WordsUnsaid.tellCrossing()I -/
noncomputable def wu_tellCrossing (h : pH) : pR :=
  px_bind (tl_tell__ (h 22 12) (h 22 11) (h 22 10) h) fun _ h2 =>
  some (h2 22 10, h2)
def wu_tellCrossing_code : pCode := [(0, .aload_n 0, 1), (1, .getfield 75, 3), (4, .aload_n 0, 1), (5, .getfield 42, 3), (8, .getfield 458, 3), (11, .aload_n 0, 1), (12, .getfield 42, 3), (15, .getfield 250, 3), (18, .aload_n 0, 1), (19, .getfield 42, 3), (22, .getfield 460, 3), (25, .invokevirtual 463, 3), (28, .aload_n 0, 1), (29, .getfield 42, 3), (32, .getfield 460, 3), (35, .ireturn, 1)]
set_option maxRecDepth 200000 in
theorem wu_tellCrossing_code_ok : px_code prog_1_method_47_code wu_tellCrossing_code = true := by decide +kernel
noncomputable def wu_tellCrossing_orc : pC := px_orc [(85, fun a h => match a with
    | [.inr (.inl 45), .inl v1, .inl v2, .inl v3] => tl_tell__ v1 v2 v3 h
    | _ => none)]
theorem wu_tellCrossing_orc_ok {d : Nat} : px_Or (d + 5) (wu_tellCrossing_orc) := px_orc_ok (by
  refine px_o1 (fun a h q e => by
    dsimp only at e
    split at e
    · exact tl_tell___ok (d := d + 0) e
    · cases e) ?_
  exact px_o0)
set_option maxRecDepth 200000 in
theorem wu_tellCrossing_ok {d : Nat} {h : pH} {q : Int32 × pH} (e : wu_tellCrossing h = some q) : px_Con (d + 6) 165 [.inr (.inl 0)] h q :=
  px_con (X := pX_RX10) (b := prog_1_method_47_code) (nL := 1) (rt := (some .int)) rfl rfl (Nat.le_of_ble_eq_true rfl) rfl (px_blk_ok (d := d + 5) (M := (pX_RX10, prog_1_method_47_code, 1, (some .int))) (C := wu_tellCrossing_orc) (code := wu_tellCrossing_code) (ld := []) (kl := []) (wu_tellCrossing_orc_ok) pX_ok_RX10 wu_tellCrossing_code_ok (px_k0) 21 0 _ _ _ q e)
/-! WordsUnsaid.cross(III)I -/
noncomputable def wu_cross (x1 : Int32) (x2 : Int32) (x3 : Int32) (h : pH) : pR :=
  px_bind (wu_embark x1 x2 x3 h) fun z1 h2 =>
  if 0 ≤ z1 then
    px_bind (cr_go h2) fun _ h4 =>
    px_bind (me_stage h4) fun _ h6 =>
    px_bind (cr_settle h6) fun _ h8 =>
    px_bind (me_commit h8) fun _ h10 =>
    px_bind (wu_tellCrossing h10) fun z11 h12 =>
    some (z11, h12)
  else
    some (z1, h2)
def wu_cross_code : pCode := [(0, .aload_n 0, 1), (1, .iload_n 1, 1), (2, .iload_n 2, 1), (3, .iload_n 3, 1), (4, .invokevirtual 194, 3), (7, .istore 4, 2), (9, .iload 4, 2), (11, .ifCond .ge (6), 3), (14, .iload 4, 2), (16, .ireturn, 1), (17, .aload_n 0, 1), (18, .getfield 42, 3), (21, .invokevirtual 198, 3), (24, .aload_n 0, 1), (25, .getfield 61, 3), (28, .aload_n 0, 1), (29, .getfield 19, 3), (32, .invokevirtual 201, 3), (35, .aload_n 0, 1), (36, .getfield 42, 3), (39, .invokevirtual 205, 3), (42, .aload_n 0, 1), (43, .getfield 61, 3), (46, .invokevirtual 208, 3), (49, .aload_n 0, 1), (50, .invokevirtual 211, 3), (53, .ireturn, 1)]
set_option maxRecDepth 200000 in
theorem wu_cross_code_ok : px_code prog_1_method_12_code wu_cross_code = true := by decide +kernel
noncomputable def wu_cross_orc : pC := px_orc [(163, fun a h => match a with
    | [.inr (.inl 0), .inl v1, .inl v2, .inl v3] => wu_embark v1 v2 v3 h
    | _ => none), (9, fun a h => match a with
    | [.inr (.inl 22)] => cr_go h
    | _ => none), (53, fun a h => match a with
    | [.inr (.inl 41), .inr (.inl 3)] => me_stage h
    | _ => none), (10, fun a h => match a with
    | [.inr (.inl 22)] => cr_settle h
    | _ => none), (55, fun a h => match a with
    | [.inr (.inl 41)] => me_commit h
    | _ => none), (165, fun a h => match a with
    | [.inr (.inl 0)] => wu_tellCrossing h
    | _ => none)]
theorem wu_cross_orc_ok {d : Nat} : px_Or (d + 6) (wu_cross_orc) := px_orc_ok (by
  refine px_o1 (fun a h q e => by
    dsimp only at e
    split at e
    · exact wu_embark_ok (d := d + 0) e
    · cases e) ?_
  refine px_o1 (fun a h q e => by
    dsimp only at e
    split at e
    · exact cr_go_ok (d := d + 2) e
    · cases e) ?_
  refine px_o1 (fun a h q e => by
    dsimp only at e
    split at e
    · exact me_stage_ok (d := d + 3) e
    · cases e) ?_
  refine px_o1 (fun a h q e => by
    dsimp only at e
    split at e
    · exact cr_settle_ok (d := d + 3) e
    · cases e) ?_
  refine px_o1 (fun a h q e => by
    dsimp only at e
    split at e
    · exact me_commit_ok (d := d + 5) e
    · cases e) ?_
  refine px_o1 (fun a h q e => by
    dsimp only at e
    split at e
    · exact wu_tellCrossing_ok (d := d + 0) e
    · cases e) ?_
  exact px_o0)
set_option maxRecDepth 200000 in
theorem wu_cross_ok {d : Nat} {x1 : Int32} {x2 : Int32} {x3 : Int32} {h : pH} {q : Int32 × pH} (e : wu_cross x1 x2 x3 h = some q) : px_Con (d + 7) 130 [.inr (.inl 0), .inl x1, .inl x2, .inl x3] h q :=
  px_con (X := pX_RX10) (b := prog_1_method_12_code) (nL := 5) (rt := (some .int)) rfl rfl (Nat.le_of_ble_eq_true rfl) rfl (px_blk_ok (d := d + 6) (M := (pX_RX10, prog_1_method_12_code, 5, (some .int))) (C := wu_cross_orc) (code := wu_cross_code) (ld := []) (kl := []) (wu_cross_orc_ok) pX_ok_RX10 wu_cross_code_ok (px_k0) 32 0 _ _ _ q e)
/-! WordsUnsaid.look(III)I -/
noncomputable def wu_look (x1 : Int32) (x2 : Int32) (x3 : Int32) (h : pH) : pR :=
  px_bind (wu_embark x1 x2 x3 h) fun z1 h2 =>
  if 0 ≤ z1 then
    px_bind (cr_go h2) fun _ h4 =>
    px_bind (wu_tellCrossing h4) fun z5 h6 =>
    some (z5, h6)
  else
    some (z1, h2)
def wu_look_code : pCode := [(0, .aload_n 0, 1), (1, .iload_n 1, 1), (2, .iload_n 2, 1), (3, .iload_n 3, 1), (4, .invokevirtual 194, 3), (7, .istore 4, 2), (9, .iload 4, 2), (11, .ifCond .ge (6), 3), (14, .iload 4, 2), (16, .ireturn, 1), (17, .aload_n 0, 1), (18, .getfield 42, 3), (21, .invokevirtual 198, 3), (24, .aload_n 0, 1), (25, .invokevirtual 211, 3), (28, .ireturn, 1)]
set_option maxRecDepth 200000 in
theorem wu_look_code_ok : px_code prog_1_method_13_code wu_look_code = true := by decide +kernel
noncomputable def wu_look_orc : pC := px_orc [(163, fun a h => match a with
    | [.inr (.inl 0), .inl v1, .inl v2, .inl v3] => wu_embark v1 v2 v3 h
    | _ => none), (9, fun a h => match a with
    | [.inr (.inl 22)] => cr_go h
    | _ => none), (165, fun a h => match a with
    | [.inr (.inl 0)] => wu_tellCrossing h
    | _ => none)]
theorem wu_look_orc_ok {d : Nat} : px_Or (d + 6) (wu_look_orc) := px_orc_ok (by
  refine px_o1 (fun a h q e => by
    dsimp only at e
    split at e
    · exact wu_embark_ok (d := d + 0) e
    · cases e) ?_
  refine px_o1 (fun a h q e => by
    dsimp only at e
    split at e
    · exact cr_go_ok (d := d + 2) e
    · cases e) ?_
  refine px_o1 (fun a h q e => by
    dsimp only at e
    split at e
    · exact wu_tellCrossing_ok (d := d + 0) e
    · cases e) ?_
  exact px_o0)
set_option maxRecDepth 200000 in
theorem wu_look_ok {d : Nat} {x1 : Int32} {x2 : Int32} {x3 : Int32} {h : pH} {q : Int32 × pH} (e : wu_look x1 x2 x3 h = some q) : px_Con (d + 7) 131 [.inr (.inl 0), .inl x1, .inl x2, .inl x3] h q :=
  px_con (X := pX_RX10) (b := prog_1_method_13_code) (nL := 5) (rt := (some .int)) rfl rfl (Nat.le_of_ble_eq_true rfl) rfl (px_blk_ok (d := d + 6) (M := (pX_RX10, prog_1_method_13_code, 5, (some .int))) (C := wu_look_orc) (code := wu_look_code) (ld := []) (kl := []) (wu_look_orc_ok) pX_ok_RX10 wu_look_code_ok (px_k0) 21 0 _ _ _ q e)
/-! WordsUnsaid.remembered(I)I -/
noncomputable def wu_remembered_11 (x1 : Int32) (h : pH) : pR :=
  some (x1, h)
noncomputable def wu_remembered (x1 : Int32) (h : pH) : pR :=
  if x1 < 0 then
    wu_remembered_11 x1 h
  else
    px_bind (me_commit h) fun _ h2 =>
    wu_remembered_11 x1 h2
def wu_remembered_code : pCode := [(0, .iload_n 1, 1), (1, .ifCond .lt (10), 3), (4, .aload_n 0, 1), (5, .getfield 61, 3), (8, .invokevirtual 208, 3), (11, .iload_n 1, 1), (12, .ireturn, 1)]
set_option maxRecDepth 200000 in
theorem wu_remembered_code_ok : px_code prog_1_method_48_code wu_remembered_code = true := by decide +kernel
noncomputable def wu_remembered_orc : pC := px_orc [(55, fun a h => match a with
    | [.inr (.inl 41)] => me_commit h
    | _ => none)]
theorem wu_remembered_orc_ok {d : Nat} : px_Or (d + 1) (wu_remembered_orc) := px_orc_ok (by
  refine px_o1 (fun a h q e => by
    dsimp only at e
    split at e
    · exact me_commit_ok (d := d + 0) e
    · cases e) ?_
  exact px_o0)
set_option maxRecDepth 200000 in
theorem wu_remembered_11_ok {d : Nat} : ∀ (x1 : Int32) (h : pH) (q : Int32 × pH), wu_remembered_11 x1 h = some q → px_G (d + 1 + 1) (pX_RX10, prog_1_method_48_code, 2, (some .int)) 11 [none, some (.inl x1)] [] h q := by
  intro x1 h q e
  exact px_blk_ok (d := d + 1) (M := (pX_RX10, prog_1_method_48_code, 2, (some .int))) (C := wu_remembered_orc) (code := wu_remembered_code) (ld := []) (kl := []) (wu_remembered_orc_ok) pX_ok_RX10 wu_remembered_code_ok (px_k0) 12 11 _ _ h q e
set_option maxRecDepth 200000 in
theorem wu_remembered_ok {d : Nat} {x1 : Int32} {h : pH} {q : Int32 × pH} (e : wu_remembered x1 h = some q) : px_Con (d + 2) 166 [.inr (.inl 0), .inl x1] h q :=
  px_con (X := pX_RX10) (b := prog_1_method_48_code) (nL := 2) (rt := (some .int)) rfl rfl (Nat.le_of_ble_eq_true rfl) rfl (px_blk_ok (d := d + 1) (M := (pX_RX10, prog_1_method_48_code, 2, (some .int))) (C := wu_remembered_orc) (code := wu_remembered_code) (ld := [11]) (kl := [(11, fun ls st h => px_if (px_fit [0, 1] ls && px_fits [] st) (wu_remembered_11 (px_gi ls 1) h))]) (wu_remembered_orc_ok) pX_ok_RX10 wu_remembered_code_ok (px_k1 (px_ko (ts := [0, 1]) (ss := []) fun ls st h q e => wu_remembered_11_ok _ _ _ e) px_k0) 12 0 _ _ _ q e)
/-! WordsUnsaid.say(II)I -/
noncomputable def wu_say (x1 : Int32) (x2 : Int32) (h : pH) : pR :=
  px_bind (me_stage h) fun _ h2 =>
  px_bind (hs_speak x1 x2 h2) fun z3 h4 =>
  px_bind (wu_remembered z3 h4) fun z5 h6 =>
  some (z5, h6)
def wu_say_code : pCode := [(0, .aload_n 0, 1), (1, .getfield 61, 3), (4, .aload_n 0, 1), (5, .getfield 19, 3), (8, .invokevirtual 201, 3), (11, .aload_n 0, 1), (12, .aload_n 0, 1), (13, .getfield 19, 3), (16, .iload_n 1, 1), (17, .iload_n 2, 1), (18, .invokevirtual 214, 3), (21, .invokevirtual 217, 3), (24, .ireturn, 1)]
set_option maxRecDepth 200000 in
theorem wu_say_code_ok : px_code prog_1_method_14_code wu_say_code = true := by decide +kernel
noncomputable def wu_say_orc : pC := px_orc [(53, fun a h => match a with
    | [.inr (.inl 41), .inr (.inl 3)] => me_stage h
    | _ => none), (44, fun a h => match a with
    | [.inr (.inl 3), .inl v1, .inl v2] => hs_speak v1 v2 h
    | _ => none), (166, fun a h => match a with
    | [.inr (.inl 0), .inl v1] => wu_remembered v1 h
    | _ => none)]
theorem wu_say_orc_ok {d : Nat} : px_Or (d + 4) (wu_say_orc) := px_orc_ok (by
  refine px_o1 (fun a h q e => by
    dsimp only at e
    split at e
    · exact me_stage_ok (d := d + 1) e
    · cases e) ?_
  refine px_o1 (fun a h q e => by
    dsimp only at e
    split at e
    · exact hs_speak_ok (d := d + 0) e
    · cases e) ?_
  refine px_o1 (fun a h q e => by
    dsimp only at e
    split at e
    · exact wu_remembered_ok (d := d + 2) e
    · cases e) ?_
  exact px_o0)
set_option maxRecDepth 200000 in
theorem wu_say_ok {d : Nat} {x1 : Int32} {x2 : Int32} {h : pH} {q : Int32 × pH} (e : wu_say x1 x2 h = some q) : px_Con (d + 5) 132 [.inr (.inl 0), .inl x1, .inl x2] h q :=
  px_con (X := pX_RX10) (b := prog_1_method_14_code) (nL := 3) (rt := (some .int)) rfl rfl (Nat.le_of_ble_eq_true rfl) rfl (px_blk_ok (d := d + 4) (M := (pX_RX10, prog_1_method_14_code, 3, (some .int))) (C := wu_say_orc) (code := wu_say_code) (ld := []) (kl := []) (wu_say_orc_ok) pX_ok_RX10 wu_say_code_ok (px_k0) 18 0 _ _ _ q e)
/-! WordsUnsaid.whisper(III)I -/
noncomputable def wu_whisper (x1 : Int32) (x2 : Int32) (x3 : Int32) (h : pH) : pR :=
  px_bind (me_stage h) fun _ h2 =>
  px_bind (hs_passOn x1 x2 x3 h2) fun z3 h4 =>
  px_bind (wu_remembered z3 h4) fun z5 h6 =>
  some (z5, h6)
def wu_whisper_code : pCode := [(0, .aload_n 0, 1), (1, .getfield 61, 3), (4, .aload_n 0, 1), (5, .getfield 19, 3), (8, .invokevirtual 201, 3), (11, .aload_n 0, 1), (12, .aload_n 0, 1), (13, .getfield 19, 3), (16, .iload_n 1, 1), (17, .iload_n 2, 1), (18, .iload_n 3, 1), (19, .invokevirtual 220, 3), (22, .invokevirtual 217, 3), (25, .ireturn, 1)]
set_option maxRecDepth 200000 in
theorem wu_whisper_code_ok : px_code prog_1_method_15_code wu_whisper_code = true := by decide +kernel
noncomputable def wu_whisper_orc : pC := px_orc [(53, fun a h => match a with
    | [.inr (.inl 41), .inr (.inl 3)] => me_stage h
    | _ => none), (45, fun a h => match a with
    | [.inr (.inl 3), .inl v1, .inl v2, .inl v3] => hs_passOn v1 v2 v3 h
    | _ => none), (166, fun a h => match a with
    | [.inr (.inl 0), .inl v1] => wu_remembered v1 h
    | _ => none)]
theorem wu_whisper_orc_ok {d : Nat} : px_Or (d + 3) (wu_whisper_orc) := px_orc_ok (by
  refine px_o1 (fun a h q e => by
    dsimp only at e
    split at e
    · exact me_stage_ok (d := d + 0) e
    · cases e) ?_
  refine px_o1 (fun a h q e => by
    dsimp only at e
    split at e
    · exact hs_passOn_ok (d := d + 0) e
    · cases e) ?_
  refine px_o1 (fun a h q e => by
    dsimp only at e
    split at e
    · exact wu_remembered_ok (d := d + 1) e
    · cases e) ?_
  exact px_o0)
set_option maxRecDepth 200000 in
theorem wu_whisper_ok {d : Nat} {x1 : Int32} {x2 : Int32} {x3 : Int32} {h : pH} {q : Int32 × pH} (e : wu_whisper x1 x2 x3 h = some q) : px_Con (d + 4) 133 [.inr (.inl 0), .inl x1, .inl x2, .inl x3] h q :=
  px_con (X := pX_RX10) (b := prog_1_method_15_code) (nL := 4) (rt := (some .int)) rfl rfl (Nat.le_of_ble_eq_true rfl) rfl (px_blk_ok (d := d + 3) (M := (pX_RX10, prog_1_method_15_code, 4, (some .int))) (C := wu_whisper_orc) (code := wu_whisper_code) (ld := []) (kl := []) (wu_whisper_orc_ok) pX_ok_RX10 wu_whisper_code_ok (px_k0) 19 0 _ _ _ q e)
/-! WordsUnsaid.sell(III)I -/
noncomputable def wu_sell (x1 : Int32) (x2 : Int32) (x3 : Int32) (h : pH) : pR :=
  px_bind (me_stage h) fun _ h2 =>
  px_bind (hs_trade x1 x2 x3 h2) fun z3 h4 =>
  px_bind (wu_remembered z3 h4) fun z5 h6 =>
  some (z5, h6)
def wu_sell_code : pCode := [(0, .aload_n 0, 1), (1, .getfield 61, 3), (4, .aload_n 0, 1), (5, .getfield 19, 3), (8, .invokevirtual 201, 3), (11, .aload_n 0, 1), (12, .aload_n 0, 1), (13, .getfield 19, 3), (16, .iload_n 1, 1), (17, .iload_n 2, 1), (18, .iload_n 3, 1), (19, .invokevirtual 223, 3), (22, .invokevirtual 217, 3), (25, .ireturn, 1)]
set_option maxRecDepth 200000 in
theorem wu_sell_code_ok : px_code prog_1_method_16_code wu_sell_code = true := by decide +kernel
noncomputable def wu_sell_orc : pC := px_orc [(53, fun a h => match a with
    | [.inr (.inl 41), .inr (.inl 3)] => me_stage h
    | _ => none), (50, fun a h => match a with
    | [.inr (.inl 3), .inl v1, .inl v2, .inl v3] => hs_trade v1 v2 v3 h
    | _ => none), (166, fun a h => match a with
    | [.inr (.inl 0), .inl v1] => wu_remembered v1 h
    | _ => none)]
theorem wu_sell_orc_ok {d : Nat} : px_Or (d + 5) (wu_sell_orc) := px_orc_ok (by
  refine px_o1 (fun a h q e => by
    dsimp only at e
    split at e
    · exact me_stage_ok (d := d + 2) e
    · cases e) ?_
  refine px_o1 (fun a h q e => by
    dsimp only at e
    split at e
    · exact hs_trade_ok (d := d + 0) e
    · cases e) ?_
  refine px_o1 (fun a h q e => by
    dsimp only at e
    split at e
    · exact wu_remembered_ok (d := d + 3) e
    · cases e) ?_
  exact px_o0)
set_option maxRecDepth 200000 in
theorem wu_sell_ok {d : Nat} {x1 : Int32} {x2 : Int32} {x3 : Int32} {h : pH} {q : Int32 × pH} (e : wu_sell x1 x2 x3 h = some q) : px_Con (d + 6) 134 [.inr (.inl 0), .inl x1, .inl x2, .inl x3] h q :=
  px_con (X := pX_RX10) (b := prog_1_method_16_code) (nL := 4) (rt := (some .int)) rfl rfl (Nat.le_of_ble_eq_true rfl) rfl (px_blk_ok (d := d + 5) (M := (pX_RX10, prog_1_method_16_code, 4, (some .int))) (C := wu_sell_orc) (code := wu_sell_code) (ld := []) (kl := []) (wu_sell_orc_ok) pX_ok_RX10 wu_sell_code_ok (px_k0) 19 0 _ _ _ q e)
/-! WordsUnsaid.gossip()I -/
noncomputable def wu_gossip (h : pH) : pR :=
  if (h 43 2) = px_c 115 then
    px_bind (hs_speak (h 43 3) (h 43 6) h) fun z1 h2 =>
    some (z1, h2)
  else
  if (h 43 2) = px_c 118 then
    px_bind (hs_trade (h 43 3) (h 43 4) (h 43 6) h) fun z3 h4 =>
    some (z3, h4)
  else
    px_bind (hs_passOn (h 43 3) (h 43 4) (h 43 6) h) fun z5 h6 =>
    some (z5, h6)
def wu_gossip_code : pCode := [(0, .aload_n 0, 1), (1, .getfield 68, 3), (4, .getfield 465, 3), (7, .lookupswitch (76) #[(115, 25), (118, 47)], 25), (32, .aload_n 0, 1), (33, .getfield 19, 3), (36, .aload_n 0, 1), (37, .getfield 68, 3), (40, .getfield 468, 3), (43, .aload_n 0, 1), (44, .getfield 68, 3), (47, .getfield 471, 3), (50, .invokevirtual 214, 3), (53, .ireturn, 1), (54, .aload_n 0, 1), (55, .getfield 19, 3), (58, .aload_n 0, 1), (59, .getfield 68, 3), (62, .getfield 468, 3), (65, .aload_n 0, 1), (66, .getfield 68, 3), (69, .getfield 474, 3), (72, .aload_n 0, 1), (73, .getfield 68, 3), (76, .getfield 471, 3), (79, .invokevirtual 223, 3), (82, .ireturn, 1), (83, .aload_n 0, 1), (84, .getfield 19, 3), (87, .aload_n 0, 1), (88, .getfield 68, 3), (91, .getfield 468, 3), (94, .aload_n 0, 1), (95, .getfield 68, 3), (98, .getfield 474, 3), (101, .aload_n 0, 1), (102, .getfield 68, 3), (105, .getfield 471, 3), (108, .invokevirtual 220, 3), (111, .ireturn, 1)]
set_option maxRecDepth 200000 in
theorem wu_gossip_code_ok : px_code prog_1_method_49_code wu_gossip_code = true := by decide +kernel
noncomputable def wu_gossip_orc : pC := px_orc [(44, fun a h => match a with
    | [.inr (.inl 3), .inl v1, .inl v2] => hs_speak v1 v2 h
    | _ => none), (50, fun a h => match a with
    | [.inr (.inl 3), .inl v1, .inl v2, .inl v3] => hs_trade v1 v2 v3 h
    | _ => none), (45, fun a h => match a with
    | [.inr (.inl 3), .inl v1, .inl v2, .inl v3] => hs_passOn v1 v2 v3 h
    | _ => none)]
theorem wu_gossip_orc_ok {d : Nat} : px_Or (d + 5) (wu_gossip_orc) := px_orc_ok (by
  refine px_o1 (fun a h q e => by
    dsimp only at e
    split at e
    · exact hs_speak_ok (d := d + 1) e
    · cases e) ?_
  refine px_o1 (fun a h q e => by
    dsimp only at e
    split at e
    · exact hs_trade_ok (d := d + 0) e
    · cases e) ?_
  refine px_o1 (fun a h q e => by
    dsimp only at e
    split at e
    · exact hs_passOn_ok (d := d + 2) e
    · cases e) ?_
  exact px_o0)
set_option maxRecDepth 200000 in
theorem wu_gossip_ok {d : Nat} {h : pH} {q : Int32 × pH} (e : wu_gossip h = some q) : px_Con (d + 6) 167 [.inr (.inl 0)] h q :=
  px_con (X := pX_RX10) (b := prog_1_method_49_code) (nL := 1) (rt := (some .int)) rfl rfl (Nat.le_of_ble_eq_true rfl) rfl (px_blk_ok (d := d + 5) (M := (pX_RX10, prog_1_method_49_code, 1, (some .int))) (C := wu_gossip_orc) (code := wu_gossip_code) (ld := []) (kl := []) (wu_gossip_orc_ok) pX_ok_RX10 wu_gossip_code_ok (px_k0) 45 0 _ _ _ q e)
/-! WordsUnsaid.sail()I -/
noncomputable def wu_sail_36 : Nat → Int32 → pH → pR
  | 0, _, _ => none
  | n + 1, x1, h =>
    if (h 43 1) ≤ x1 then
      px_bind (cr_hasWords h) fun z1 h2 =>
      if z1 = 0 then
        some (px_c (-200), h2)
      else
        px_bind (cr_go h2) fun _ h4 =>
        px_bind (cr_settle h4) fun _ h6 =>
        some (h6 22 10, h6)
    else
      px_bind (wu_at 44 x1 h) fun z7 h8 =>
      px_bind (cr_take z7 h8) fun z9 h10 =>
      if z9 = 0 then
        some (px_c (-1), h10)
      else
        wu_sail_36 n (x1 + px_c 1) h10
noncomputable def wu_sail (h : pH) : pR :=
  px_bind (cr_begin (h 43 3) (h 43 4) (h 43 5) h) fun z1 h2 =>
  if z1 = 0 then
    some (px_c (-100), h2)
  else
    wu_sail_36 px_F (px_c 0) h2
def wu_sail_code : pCode := [(0, .aload_n 0, 1), (1, .getfield 42, 3), (4, .aload_n 0, 1), (5, .getfield 68, 3), (8, .getfield 468, 3), (11, .aload_n 0, 1), (12, .getfield 68, 3), (15, .getfield 474, 3), (18, .aload_n 0, 1), (19, .getfield 68, 3), (22, .getfield 477, 3), (25, .invokevirtual 261, 3), (28, .ifCond .ne (6), 3), (31, .bipush (-100), 2), (33, .ireturn, 1), (34, .iconst 0, 1), (35, .istore_n 1, 1), (36, .iload_n 1, 1), (37, .aload_n 0, 1), (38, .getfield 68, 3), (41, .getfield 480, 3), (44, .if_icmp .ge (32), 3), (47, .aload_n 0, 1), (48, .getfield 42, 3), (51, .aload_n 0, 1), (52, .getfield 68, 3), (55, .getfield 481, 3), (58, .iload_n 1, 1), (59, .invokestatic 124, 3), (62, .invokevirtual 452, 3), (65, .ifCond .ne (5), 3), (68, .iconst (-1), 1), (69, .ireturn, 1), (70, .iinc 1 (1), 3), (73, .goto (-37), 3), (76, .aload_n 0, 1), (77, .getfield 42, 3), (80, .invokevirtual 447, 3), (83, .ifCond .ne (7), 3), (86, .sipush (-200), 3), (89, .ireturn, 1), (90, .aload_n 0, 1), (91, .getfield 42, 3), (94, .invokevirtual 198, 3), (97, .aload_n 0, 1), (98, .getfield 42, 3), (101, .invokevirtual 205, 3), (104, .aload_n 0, 1), (105, .getfield 42, 3), (108, .getfield 460, 3), (111, .ireturn, 1)]
set_option maxRecDepth 200000 in
theorem wu_sail_code_ok : px_code prog_1_method_50_code wu_sail_code = true := by decide +kernel
noncomputable def wu_sail_orc : pC := px_orc [(8, fun a h => match a with
    | [.inr (.inl 22)] => cr_hasWords h
    | _ => none), (9, fun a h => match a with
    | [.inr (.inl 22)] => cr_go h
    | _ => none), (10, fun a h => match a with
    | [.inr (.inl 22)] => cr_settle h
    | _ => none), (158, fun a h => match a with
    | [.inr (.inl v0), .inl v1] => wu_at v0 v1 h
    | _ => none), (7, fun a h => match a with
    | [.inr (.inl 22), .inl v1] => cr_take v1 h
    | _ => none), (5, fun a h => match a with
    | [.inr (.inl 22), .inl v1, .inl v2, .inl v3] => cr_begin v1 v2 v3 h
    | _ => none)]
theorem wu_sail_orc_ok {d : Nat} : px_Or (d + 5) (wu_sail_orc) := px_orc_ok (by
  refine px_o1 (fun a h q e => by
    dsimp only at e
    split at e
    · exact cr_hasWords_ok (d := d + 3) e
    · cases e) ?_
  refine px_o1 (fun a h q e => by
    dsimp only at e
    split at e
    · exact cr_go_ok (d := d + 1) e
    · cases e) ?_
  refine px_o1 (fun a h q e => by
    dsimp only at e
    split at e
    · exact cr_settle_ok (d := d + 2) e
    · cases e) ?_
  refine px_o1 (fun a h q e => by
    dsimp only at e
    split at e
    · exact wu_at_ok (d := d + 4) e
    · cases e) ?_
  refine px_o1 (fun a h q e => by
    dsimp only at e
    split at e
    · exact cr_take_ok (d := d + 2) e
    · cases e) ?_
  refine px_o1 (fun a h q e => by
    dsimp only at e
    split at e
    · exact cr_begin_ok (d := d + 0) e
    · cases e) ?_
  exact px_o0)
set_option maxRecDepth 200000 in
theorem wu_sail_36_ok {d : Nat} : ∀ (n : Nat) (x1 : Int32) (h : pH) (q : Int32 × pH), wu_sail_36 n x1 h = some q → px_G (d + 5 + 1) (pX_RX10, prog_1_method_50_code, 2, (some .int)) 36 [some (.inr (.inl 0)), some (.inl x1)] [] h q := by
  intro n
  induction n with
  | zero =>
    intro x1 h q e
    cases e
  | succ n ih =>
    intro x1 h q e
    exact px_blk_ok (d := d + 5) (M := (pX_RX10, prog_1_method_50_code, 2, (some .int))) (C := wu_sail_orc) (code := wu_sail_code) (ld := [36]) (kl := [(36, fun ls st h => px_if (px_fit [10, 1] ls && px_fits [] st) (wu_sail_36 n (px_gi ls 1) h))]) (wu_sail_orc_ok) pX_ok_RX10 wu_sail_code_ok (px_k1 (px_ko (ts := [10, 1]) (ss := []) fun ls st h q e => ih _ _ _ e) px_k0) 56 36 _ _ h q e
set_option maxRecDepth 200000 in
theorem wu_sail_ok {d : Nat} {h : pH} {q : Int32 × pH} (e : wu_sail h = some q) : px_Con (d + 6) 168 [.inr (.inl 0)] h q :=
  px_con (X := pX_RX10) (b := prog_1_method_50_code) (nL := 2) (rt := (some .int)) rfl rfl (Nat.le_of_ble_eq_true rfl) rfl (px_blk_ok (d := d + 5) (M := (pX_RX10, prog_1_method_50_code, 2, (some .int))) (C := wu_sail_orc) (code := wu_sail_code) (ld := [36]) (kl := [(36, fun ls st h => px_if (px_fit [10, 1] ls && px_fits [] st) (wu_sail_36 px_F (px_gi ls 1) h))]) (wu_sail_orc_ok) pX_ok_RX10 wu_sail_code_ok (px_k1 (px_ko (ts := [10, 1]) (ss := []) fun ls st h q e => wu_sail_36_ok _ _ _ _ e) px_k0) 56 0 _ _ _ q e)
/-! WordsUnsaid.day()I -/
noncomputable def wu_day_175 (x2 : Int32) (x3 : Int32) (x4 : Int32) (h : pH) : pR :=
  px_bind (tx_cut (px_c 0) h) fun z1 h2 =>
  px_bind (tl_tell_ x3 x4 h2) fun _ h4 =>
  some (x2, h4)
noncomputable def wu_day_164 (x2 : Int32) (x3 : Int32) (x4 : Int32) (h : pH) : pR :=
  if x2 ≤ 0 then
    wu_day_175 x2 x3 x4 h
  else
    px_bind (me_commit h) fun _ h2 =>
    wu_day_175 x2 x3 x4 h2
noncomputable def wu_day_158 (r57 : Int32 → Int32 → Int32 → Int32 → Int32 → pH → pR) (x1 : Int32) (x2 : Int32) (x3 : Int32) (x4 : Int32) (x5 : Int32) (h : pH) : pR :=
  r57 x1 x2 x3 x4 (x5 + px_c 1) h
noncomputable def wu_day_156 (r57 : Int32 → Int32 → Int32 → Int32 → Int32 → pH → pR) (x1 : Int32) (x2 : Int32) (x4 : Int32) (x5 : Int32) (h : pH) : pR :=
  wu_day_158 r57 x1 x2 (px_c 1) x4 x5 h
noncomputable def wu_day_150 (r57 : Int32 → Int32 → Int32 → Int32 → Int32 → pH → pR) (x1 : Int32) (x2 : Int32) (x3 : Int32) (x5 : Int32) (s0 : Int32) (s1 : Int32) (h : pH) : pR :=
  let y4_1 := s1 + s0
  wu_day_158 r57 x1 x2 x3 y4_1 x5 h
noncomputable def wu_day_149 (r57 : Int32 → Int32 → Int32 → Int32 → Int32 → pH → pR) (x1 : Int32) (x2 : Int32) (x3 : Int32) (x5 : Int32) (s0 : Int32) (h : pH) : pR :=
  wu_day_150 r57 x1 x2 x3 x5 (px_c 0) s0 h
noncomputable def wu_day_116 (r57 : Int32 → Int32 → Int32 → Int32 → Int32 → pH → pR) (x1 : Int32) (x2 : Int32) (x3 : Int32) (x4 : Int32) (x5 : Int32) (s0 : Int32) (h : pH) : pR :=
  if s0 < 0 then
    wu_day_156 r57 x1 x2 x4 x5 h
  else
    px_bind (ac_isCrossing h) fun z1 h2 =>
    if z1 = 0 then
      wu_day_149 r57 x1 (x2 + px_c 1) x3 x5 x4 h2
    else
      if (h2 22 11) = (px_c (-1)) then
        wu_day_149 r57 x1 (x2 + px_c 1) x3 x5 x4 h2
      else
        wu_day_150 r57 x1 (x2 + px_c 1) x3 x5 (px_c 1) x4 h2
noncomputable def wu_day_57 : Nat → Int32 → Int32 → Int32 → Int32 → Int32 → pH → pR
  | 0, _, _, _, _, _, _ => none
  | n + 1, x1, x2, x3, x4, x5, h =>
    if x1 ≤ x5 then
      wu_day_164 x2 x3 x4 h
    else
      if x3 = 0 then
        px_bind (ac_readNext h) fun z1 h2 =>
        px_bind (tx_meet (px_c 59) h2) fun z3 h4 =>
        if z1 = 0 then
          wu_day_156 (wu_day_57 n) x1 x2 x4 x5 h4
        else
          px_bind (ac_isCrossing h4) fun z5 h6 =>
          if z5 = 0 then
            px_bind (wu_gossip h6) fun z7 h8 =>
            wu_day_116 (wu_day_57 n) x1 x2 x3 x4 x5 z7 h8
          else
            px_bind (wu_sail h6) fun z9 h10 =>
            wu_day_116 (wu_day_57 n) x1 x2 x3 x4 x5 z9 h10
      else
        wu_day_164 x2 x3 x4 h
noncomputable def wu_day (h : pH) : pR :=
  px_bind (ac_check h) fun z1 h2 =>
  if 0 ≤ z1 then
    px_bind (me_stage h2) fun _ h4 =>
    px_bind (tx_open (px_c 60) h4) fun _ h6 =>
    wu_day_57 px_F z1 (px_c 0) (px_c 0) (px_c 0) (px_c 0) h6
  else
    px_bind (tx_cut (px_c 0) h2) fun z7 h8 =>
    some (z1, h8)
def wu_day_code : pCode := [(0, .aload_n 0, 1), (1, .getfield 68, 3), (4, .aload_n 0, 1), (5, .getfield 10, 3), (8, .invokevirtual 226, 3), (11, .istore_n 1, 1), (12, .iload_n 1, 1), (13, .ifCond .ge (14), 3), (16, .aload_n 0, 1), (17, .getfield 10, 3), (20, .iconst 0, 1), (21, .invokevirtual 94, 3), (24, .pop, 1), (25, .iload_n 1, 1), (26, .ireturn, 1), (27, .aload_n 0, 1), (28, .getfield 61, 3), (31, .aload_n 0, 1), (32, .getfield 19, 3), (35, .invokevirtual 201, 3), (38, .aload_n 0, 1), (39, .getfield 10, 3), (42, .bipush (60), 2), (44, .invokevirtual 229, 3), (47, .iconst 0, 1), (48, .istore_n 2, 1), (49, .iconst 0, 1), (50, .istore_n 3, 1), (51, .iconst 0, 1), (52, .istore 4, 2), (54, .iconst 0, 1), (55, .istore 5, 2), (57, .iload 5, 2), (59, .iload_n 1, 1), (60, .if_icmp .ge (104), 3), (63, .iload_n 3, 1), (64, .ifCond .ne (100), 3), (67, .aload_n 0, 1), (68, .getfield 68, 3), (71, .aload_n 0, 1), (72, .getfield 10, 3), (75, .invokevirtual 233, 3), (78, .istore 6, 2), (80, .aload_n 0, 1), (81, .getfield 10, 3), (84, .bipush (59), 2), (86, .invokevirtual 237, 3), (89, .pop, 1), (90, .iload 6, 2), (92, .ifCond .eq (64), 3), (95, .aload_n 0, 1), (96, .getfield 68, 3), (99, .invokevirtual 240, 3), (102, .ifCond .eq (10), 3), (105, .aload_n 0, 1), (106, .invokevirtual 244, 3), (109, .goto (7), 3), (112, .aload_n 0, 1), (113, .invokevirtual 247, 3), (116, .ifCond .lt (40), 3), (119, .iinc 2 (1), 3), (122, .iload 4, 2), (124, .aload_n 0, 1), (125, .getfield 68, 3), (128, .invokevirtual 240, 3), (131, .ifCond .eq (18), 3), (134, .aload_n 0, 1), (135, .getfield 42, 3), (138, .getfield 250, 3), (141, .iconst (-1), 1), (142, .if_icmp .eq (7), 3), (145, .iconst 1, 1), (146, .goto (4), 3), (149, .iconst 0, 1), (150, .iadd, 1), (151, .istore 4, 2), (153, .goto (5), 3), (156, .iconst 1, 1), (157, .istore_n 3, 1), (158, .iinc 5 (1), 3), (161, .goto (-104), 3), (164, .iload_n 2, 1), (165, .ifCond .le (10), 3), (168, .aload_n 0, 1), (169, .getfield 61, 3), (172, .invokevirtual 208, 3), (175, .aload_n 0, 1), (176, .getfield 10, 3), (179, .iconst 0, 1), (180, .invokevirtual 94, 3), (183, .pop, 1), (184, .aload_n 0, 1), (185, .getfield 75, 3), (188, .iload_n 3, 1), (189, .iload 4, 2), (191, .invokevirtual 252, 3), (194, .iload_n 2, 1), (195, .ireturn, 1)]
set_option maxRecDepth 200000 in
theorem wu_day_code_ok : px_code prog_1_method_17_code wu_day_code = true := by decide +kernel
noncomputable def wu_day_orc : pC := px_orc [(87, fun a h => match a with
    | [.inr (.inl 1), .inl v1] => tx_cut v1 h
    | _ => none), (84, fun a h => match a with
    | [.inr (.inl 45), .inl v1, .inl v2] => tl_tell_ v1 v2 h
    | _ => none), (55, fun a h => match a with
    | [.inr (.inl 41)] => me_commit h
    | _ => none), (1, fun a h => match a with
    | [.inr (.inl 43)] => ac_isCrossing h
    | _ => none), (2, fun a h => match a with
    | [.inr (.inl 43), .inr (.inl 1)] => ac_readNext h
    | _ => none), (91, fun a h => match a with
    | [.inr (.inl 1), .inl v1] => tx_meet v1 h
    | _ => none), (167, fun a h => match a with
    | [.inr (.inl 0)] => wu_gossip h
    | _ => none), (168, fun a h => match a with
    | [.inr (.inl 0)] => wu_sail h
    | _ => none), (0, fun a h => match a with
    | [.inr (.inl 43), .inr (.inl 1)] => ac_check h
    | _ => none), (53, fun a h => match a with
    | [.inr (.inl 41), .inr (.inl 3)] => me_stage h
    | _ => none), (88, fun a h => match a with
    | [.inr (.inl 1), .inl v1] => tx_open v1 h
    | _ => none)]
theorem wu_day_orc_ok {d : Nat} : px_Or (d + 6) (wu_day_orc) := px_orc_ok (by
  refine px_o1 (fun a h q e => by
    dsimp only at e
    split at e
    · exact tx_cut_ok (d := d + 5) e
    · cases e) ?_
  refine px_o1 (fun a h q e => by
    dsimp only at e
    split at e
    · exact tl_tell__ok (d := d + 2) e
    · cases e) ?_
  refine px_o1 (fun a h q e => by
    dsimp only at e
    split at e
    · exact me_commit_ok (d := d + 5) e
    · cases e) ?_
  refine px_o1 (fun a h q e => by
    dsimp only at e
    split at e
    · exact ac_isCrossing_ok (d := d + 5) e
    · cases e) ?_
  refine px_o1 (fun a h q e => by
    dsimp only at e
    split at e
    · exact ac_readNext_ok (d := d + 1) e
    · cases e) ?_
  refine px_o1 (fun a h q e => by
    dsimp only at e
    split at e
    · exact tx_meet_ok (d := d + 4) e
    · cases e) ?_
  refine px_o1 (fun a h q e => by
    dsimp only at e
    split at e
    · exact wu_gossip_ok (d := d + 0) e
    · cases e) ?_
  refine px_o1 (fun a h q e => by
    dsimp only at e
    split at e
    · exact wu_sail_ok (d := d + 0) e
    · cases e) ?_
  refine px_o1 (fun a h q e => by
    dsimp only at e
    split at e
    · exact ac_check_ok (d := d + 0) e
    · cases e) ?_
  refine px_o1 (fun a h q e => by
    dsimp only at e
    split at e
    · exact me_stage_ok (d := d + 3) e
    · cases e) ?_
  refine px_o1 (fun a h q e => by
    dsimp only at e
    split at e
    · exact tx_open_ok (d := d + 5) e
    · cases e) ?_
  exact px_o0)
set_option maxRecDepth 200000 in
theorem wu_day_175_ok {d : Nat} : ∀ (x2 : Int32) (x3 : Int32) (x4 : Int32) (h : pH) (q : Int32 × pH), wu_day_175 x2 x3 x4 h = some q → px_G (d + 6 + 1) (pX_RX10, prog_1_method_17_code, 7, (some .int)) 175 [some (.inr (.inl 0)), none, some (.inl x2), some (.inl x3), some (.inl x4), none, none] [] h q := by
  intro x2 x3 x4 h q e
  exact px_blk_ok (d := d + 6) (M := (pX_RX10, prog_1_method_17_code, 7, (some .int))) (C := wu_day_orc) (code := wu_day_code) (ld := []) (kl := []) (wu_day_orc_ok) pX_ok_RX10 wu_day_code_ok (px_k0) 103 175 _ _ h q e
set_option maxRecDepth 200000 in
theorem wu_day_164_ok {d : Nat} : ∀ (x2 : Int32) (x3 : Int32) (x4 : Int32) (h : pH) (q : Int32 × pH), wu_day_164 x2 x3 x4 h = some q → px_G (d + 6 + 1) (pX_RX10, prog_1_method_17_code, 7, (some .int)) 164 [some (.inr (.inl 0)), none, some (.inl x2), some (.inl x3), some (.inl x4), none, none] [] h q := by
  intro x2 x3 x4 h q e
  exact px_blk_ok (d := d + 6) (M := (pX_RX10, prog_1_method_17_code, 7, (some .int))) (C := wu_day_orc) (code := wu_day_code) (ld := [175]) (kl := [(175, fun ls st h => px_if (px_fit [10, 0, 1, 1, 1, 0, 0] ls && px_fits [] st) (wu_day_175 (px_gi ls 2) (px_gi ls 3) (px_gi ls 4) h))]) (wu_day_orc_ok) pX_ok_RX10 wu_day_code_ok (px_k1 (px_ko (ts := [10, 0, 1, 1, 1, 0, 0]) (ss := []) fun ls st h q e => wu_day_175_ok _ _ _ _ _ e) px_k0) 103 164 _ _ h q e
set_option maxRecDepth 200000 in
theorem wu_day_158_ok {d : Nat} {r57 : Int32 → Int32 → Int32 → Int32 → Int32 → pH → pR} (hr57 : ∀ (x1 : Int32) (x2 : Int32) (x3 : Int32) (x4 : Int32) (x5 : Int32) (h : pH) (q : Int32 × pH), r57 x1 x2 x3 x4 x5 h = some q → px_G (d + 6 + 1) (pX_RX10, prog_1_method_17_code, 7, (some .int)) 57 [some (.inr (.inl 0)), some (.inl x1), some (.inl x2), some (.inl x3), some (.inl x4), some (.inl x5), none] [] h q) : ∀ (x1 : Int32) (x2 : Int32) (x3 : Int32) (x4 : Int32) (x5 : Int32) (h : pH) (q : Int32 × pH), wu_day_158 r57 x1 x2 x3 x4 x5 h = some q → px_G (d + 6 + 1) (pX_RX10, prog_1_method_17_code, 7, (some .int)) 158 [some (.inr (.inl 0)), some (.inl x1), some (.inl x2), some (.inl x3), some (.inl x4), some (.inl x5), none] [] h q := by
  intro x1 x2 x3 x4 x5 h q e
  exact px_blk_ok (d := d + 6) (M := (pX_RX10, prog_1_method_17_code, 7, (some .int))) (C := wu_day_orc) (code := wu_day_code) (ld := [57]) (kl := [(57, fun ls st h => px_if (px_fit [10, 1, 1, 1, 1, 1, 0] ls && px_fits [] st) (r57 (px_gi ls 1) (px_gi ls 2) (px_gi ls 3) (px_gi ls 4) (px_gi ls 5) h))]) (wu_day_orc_ok) pX_ok_RX10 wu_day_code_ok (px_k1 (px_ko (ts := [10, 1, 1, 1, 1, 1, 0]) (ss := []) fun ls st h q e => hr57 _ _ _ _ _ _ _ e) px_k0) 103 158 _ _ h q e
set_option maxRecDepth 200000 in
theorem wu_day_156_ok {d : Nat} {r57 : Int32 → Int32 → Int32 → Int32 → Int32 → pH → pR} (hr57 : ∀ (x1 : Int32) (x2 : Int32) (x3 : Int32) (x4 : Int32) (x5 : Int32) (h : pH) (q : Int32 × pH), r57 x1 x2 x3 x4 x5 h = some q → px_G (d + 6 + 1) (pX_RX10, prog_1_method_17_code, 7, (some .int)) 57 [some (.inr (.inl 0)), some (.inl x1), some (.inl x2), some (.inl x3), some (.inl x4), some (.inl x5), none] [] h q) : ∀ (x1 : Int32) (x2 : Int32) (x4 : Int32) (x5 : Int32) (h : pH) (q : Int32 × pH), wu_day_156 r57 x1 x2 x4 x5 h = some q → px_G (d + 6 + 1) (pX_RX10, prog_1_method_17_code, 7, (some .int)) 156 [some (.inr (.inl 0)), some (.inl x1), some (.inl x2), none, some (.inl x4), some (.inl x5), none] [] h q := by
  intro x1 x2 x4 x5 h q e
  exact px_blk_ok (d := d + 6) (M := (pX_RX10, prog_1_method_17_code, 7, (some .int))) (C := wu_day_orc) (code := wu_day_code) (ld := [158]) (kl := [(158, fun ls st h => px_if (px_fit [10, 1, 1, 1, 1, 1, 0] ls && px_fits [] st) (wu_day_158 r57 (px_gi ls 1) (px_gi ls 2) (px_gi ls 3) (px_gi ls 4) (px_gi ls 5) h))]) (wu_day_orc_ok) pX_ok_RX10 wu_day_code_ok (px_k1 (px_ko (ts := [10, 1, 1, 1, 1, 1, 0]) (ss := []) fun ls st h q e => wu_day_158_ok hr57 _ _ _ _ _ _ _ e) px_k0) 103 156 _ _ h q e
set_option maxRecDepth 200000 in
theorem wu_day_150_ok {d : Nat} {r57 : Int32 → Int32 → Int32 → Int32 → Int32 → pH → pR} (hr57 : ∀ (x1 : Int32) (x2 : Int32) (x3 : Int32) (x4 : Int32) (x5 : Int32) (h : pH) (q : Int32 × pH), r57 x1 x2 x3 x4 x5 h = some q → px_G (d + 6 + 1) (pX_RX10, prog_1_method_17_code, 7, (some .int)) 57 [some (.inr (.inl 0)), some (.inl x1), some (.inl x2), some (.inl x3), some (.inl x4), some (.inl x5), none] [] h q) : ∀ (x1 : Int32) (x2 : Int32) (x3 : Int32) (x5 : Int32) (s0 : Int32) (s1 : Int32) (h : pH) (q : Int32 × pH), wu_day_150 r57 x1 x2 x3 x5 s0 s1 h = some q → px_G (d + 6 + 1) (pX_RX10, prog_1_method_17_code, 7, (some .int)) 150 [some (.inr (.inl 0)), some (.inl x1), some (.inl x2), some (.inl x3), none, some (.inl x5), none] [.inl s0, .inl s1] h q := by
  intro x1 x2 x3 x5 s0 s1 h q e
  exact px_blk_ok (d := d + 6) (M := (pX_RX10, prog_1_method_17_code, 7, (some .int))) (C := wu_day_orc) (code := wu_day_code) (ld := [158]) (kl := [(158, fun ls st h => px_if (px_fit [10, 1, 1, 1, 1, 1, 0] ls && px_fits [] st) (wu_day_158 r57 (px_gi ls 1) (px_gi ls 2) (px_gi ls 3) (px_gi ls 4) (px_gi ls 5) h))]) (wu_day_orc_ok) pX_ok_RX10 wu_day_code_ok (px_k1 (px_ko (ts := [10, 1, 1, 1, 1, 1, 0]) (ss := []) fun ls st h q e => wu_day_158_ok hr57 _ _ _ _ _ _ _ e) px_k0) 103 150 _ _ h q e
set_option maxRecDepth 200000 in
theorem wu_day_149_ok {d : Nat} {r57 : Int32 → Int32 → Int32 → Int32 → Int32 → pH → pR} (hr57 : ∀ (x1 : Int32) (x2 : Int32) (x3 : Int32) (x4 : Int32) (x5 : Int32) (h : pH) (q : Int32 × pH), r57 x1 x2 x3 x4 x5 h = some q → px_G (d + 6 + 1) (pX_RX10, prog_1_method_17_code, 7, (some .int)) 57 [some (.inr (.inl 0)), some (.inl x1), some (.inl x2), some (.inl x3), some (.inl x4), some (.inl x5), none] [] h q) : ∀ (x1 : Int32) (x2 : Int32) (x3 : Int32) (x5 : Int32) (s0 : Int32) (h : pH) (q : Int32 × pH), wu_day_149 r57 x1 x2 x3 x5 s0 h = some q → px_G (d + 6 + 1) (pX_RX10, prog_1_method_17_code, 7, (some .int)) 149 [some (.inr (.inl 0)), some (.inl x1), some (.inl x2), some (.inl x3), none, some (.inl x5), none] [.inl s0] h q := by
  intro x1 x2 x3 x5 s0 h q e
  exact px_blk_ok (d := d + 6) (M := (pX_RX10, prog_1_method_17_code, 7, (some .int))) (C := wu_day_orc) (code := wu_day_code) (ld := [150]) (kl := [(150, fun ls st h => px_if (px_fit [10, 1, 1, 1, 0, 1, 0] ls && px_fits [1, 1] st) (wu_day_150 r57 (px_gi ls 1) (px_gi ls 2) (px_gi ls 3) (px_gi ls 5) (px_si st 0) (px_si st 1) h))]) (wu_day_orc_ok) pX_ok_RX10 wu_day_code_ok (px_k1 (px_ko (ts := [10, 1, 1, 1, 0, 1, 0]) (ss := [1, 1]) fun ls st h q e => wu_day_150_ok hr57 _ _ _ _ _ _ _ _ e) px_k0) 103 149 _ _ h q e
set_option maxRecDepth 200000 in
theorem wu_day_116_ok {d : Nat} {r57 : Int32 → Int32 → Int32 → Int32 → Int32 → pH → pR} (hr57 : ∀ (x1 : Int32) (x2 : Int32) (x3 : Int32) (x4 : Int32) (x5 : Int32) (h : pH) (q : Int32 × pH), r57 x1 x2 x3 x4 x5 h = some q → px_G (d + 6 + 1) (pX_RX10, prog_1_method_17_code, 7, (some .int)) 57 [some (.inr (.inl 0)), some (.inl x1), some (.inl x2), some (.inl x3), some (.inl x4), some (.inl x5), none] [] h q) : ∀ (x1 : Int32) (x2 : Int32) (x3 : Int32) (x4 : Int32) (x5 : Int32) (s0 : Int32) (h : pH) (q : Int32 × pH), wu_day_116 r57 x1 x2 x3 x4 x5 s0 h = some q → px_G (d + 6 + 1) (pX_RX10, prog_1_method_17_code, 7, (some .int)) 116 [some (.inr (.inl 0)), some (.inl x1), some (.inl x2), some (.inl x3), some (.inl x4), some (.inl x5), none] [.inl s0] h q := by
  intro x1 x2 x3 x4 x5 s0 h q e
  exact px_blk_ok (d := d + 6) (M := (pX_RX10, prog_1_method_17_code, 7, (some .int))) (C := wu_day_orc) (code := wu_day_code) (ld := [149, 150, 156]) (kl := [(149, fun ls st h => px_if (px_fit [10, 1, 1, 1, 0, 1, 0] ls && px_fits [1] st) (wu_day_149 r57 (px_gi ls 1) (px_gi ls 2) (px_gi ls 3) (px_gi ls 5) (px_si st 0) h)), (150, fun ls st h => px_if (px_fit [10, 1, 1, 1, 0, 1, 0] ls && px_fits [1, 1] st) (wu_day_150 r57 (px_gi ls 1) (px_gi ls 2) (px_gi ls 3) (px_gi ls 5) (px_si st 0) (px_si st 1) h)), (156, fun ls st h => px_if (px_fit [10, 1, 1, 0, 1, 1, 0] ls && px_fits [] st) (wu_day_156 r57 (px_gi ls 1) (px_gi ls 2) (px_gi ls 4) (px_gi ls 5) h))]) (wu_day_orc_ok) pX_ok_RX10 wu_day_code_ok (px_k1 (px_ko (ts := [10, 1, 1, 1, 0, 1, 0]) (ss := [1]) fun ls st h q e => wu_day_149_ok hr57 _ _ _ _ _ _ _ e) (px_k1 (px_ko (ts := [10, 1, 1, 1, 0, 1, 0]) (ss := [1, 1]) fun ls st h q e => wu_day_150_ok hr57 _ _ _ _ _ _ _ _ e) (px_k1 (px_ko (ts := [10, 1, 1, 0, 1, 1, 0]) (ss := []) fun ls st h q e => wu_day_156_ok hr57 _ _ _ _ _ _ e) px_k0))) 103 116 _ _ h q e
set_option maxRecDepth 200000 in
theorem wu_day_57_ok {d : Nat} : ∀ (n : Nat) (x1 : Int32) (x2 : Int32) (x3 : Int32) (x4 : Int32) (x5 : Int32) (h : pH) (q : Int32 × pH), wu_day_57 n x1 x2 x3 x4 x5 h = some q → px_G (d + 6 + 1) (pX_RX10, prog_1_method_17_code, 7, (some .int)) 57 [some (.inr (.inl 0)), some (.inl x1), some (.inl x2), some (.inl x3), some (.inl x4), some (.inl x5), none] [] h q := by
  intro n
  induction n with
  | zero =>
    intro x1 x2 x3 x4 x5 h q e
    cases e
  | succ n ih =>
    intro x1 x2 x3 x4 x5 h q e
    exact px_blk_ok (d := d + 6) (M := (pX_RX10, prog_1_method_17_code, 7, (some .int))) (C := wu_day_orc) (code := wu_day_code) (ld := [116, 156, 164]) (kl := [(116, fun ls st h => px_if (px_fit [10, 1, 1, 1, 1, 1, 0] ls && px_fits [1] st) (wu_day_116 (wu_day_57 n) (px_gi ls 1) (px_gi ls 2) (px_gi ls 3) (px_gi ls 4) (px_gi ls 5) (px_si st 0) h)), (156, fun ls st h => px_if (px_fit [10, 1, 1, 0, 1, 1, 0] ls && px_fits [] st) (wu_day_156 (wu_day_57 n) (px_gi ls 1) (px_gi ls 2) (px_gi ls 4) (px_gi ls 5) h)), (164, fun ls st h => px_if (px_fit [10, 0, 1, 1, 1, 0, 0] ls && px_fits [] st) (wu_day_164 (px_gi ls 2) (px_gi ls 3) (px_gi ls 4) h))]) (wu_day_orc_ok) pX_ok_RX10 wu_day_code_ok (px_k1 (px_ko (ts := [10, 1, 1, 1, 1, 1, 0]) (ss := [1]) fun ls st h q e => wu_day_116_ok ih _ _ _ _ _ _ _ _ e) (px_k1 (px_ko (ts := [10, 1, 1, 0, 1, 1, 0]) (ss := []) fun ls st h q e => wu_day_156_ok ih _ _ _ _ _ _ e) (px_k1 (px_ko (ts := [10, 0, 1, 1, 1, 0, 0]) (ss := []) fun ls st h q e => wu_day_164_ok _ _ _ _ _ e) px_k0))) 103 57 _ _ h q e
set_option maxRecDepth 200000 in
theorem wu_day_ok {d : Nat} {h : pH} {q : Int32 × pH} (e : wu_day h = some q) : px_Con (d + 7) 135 [.inr (.inl 0)] h q :=
  px_con (X := pX_RX10) (b := prog_1_method_17_code) (nL := 7) (rt := (some .int)) rfl rfl (Nat.le_of_ble_eq_true rfl) rfl (px_blk_ok (d := d + 6) (M := (pX_RX10, prog_1_method_17_code, 7, (some .int))) (C := wu_day_orc) (code := wu_day_code) (ld := [57]) (kl := [(57, fun ls st h => px_if (px_fit [10, 1, 1, 1, 1, 1, 0] ls && px_fits [] st) (wu_day_57 px_F (px_gi ls 1) (px_gi ls 2) (px_gi ls 3) (px_gi ls 4) (px_gi ls 5) h))]) (wu_day_orc_ok) pX_ok_RX10 wu_day_code_ok (px_k1 (px_ko (ts := [10, 1, 1, 1, 1, 1, 0]) (ss := []) fun ls st h q e => wu_day_57_ok _ _ _ _ _ _ _ _ e) px_k0) 103 0 _ _ _ q e)
/-! WordsUnsaid.undo()I -/
noncomputable def wu_undo_25 (s0 : Int32) (h : pH) : pR :=
  some (s0, h)
noncomputable def wu_undo (h : pH) : pR :=
  px_bind (me_takeBack h) fun z1 h2 =>
  if z1 = 0 then
    wu_undo_25 (px_c (-1)) h2
  else
    wu_undo_25 (h2 41 2) h2
def wu_undo_code : pCode := [(0, .aload_n 0, 1), (1, .getfield 61, 3), (4, .aload_n 0, 1), (5, .getfield 19, 3), (8, .invokevirtual 256, 3), (11, .ifCond .eq (13), 3), (14, .aload_n 0, 1), (15, .getfield 61, 3), (18, .getfield 260, 3), (21, .goto (4), 3), (24, .iconst (-1), 1), (25, .ireturn, 1)]
set_option maxRecDepth 200000 in
theorem wu_undo_code_ok : px_code prog_1_method_18_code wu_undo_code = true := by decide +kernel
noncomputable def wu_undo_orc : pC := px_orc [(56, fun a h => match a with
    | [.inr (.inl 41), .inr (.inl 3)] => me_takeBack h
    | _ => none)]
theorem wu_undo_orc_ok {d : Nat} : px_Or (d + 3) (wu_undo_orc) := px_orc_ok (by
  refine px_o1 (fun a h q e => by
    dsimp only at e
    split at e
    · exact me_takeBack_ok (d := d + 0) e
    · cases e) ?_
  exact px_o0)
set_option maxRecDepth 200000 in
theorem wu_undo_25_ok {d : Nat} : ∀ (s0 : Int32) (h : pH) (q : Int32 × pH), wu_undo_25 s0 h = some q → px_G (d + 3 + 1) (pX_RX10, prog_1_method_18_code, 1, (some .int)) 25 [none] [.inl s0] h q := by
  intro s0 h q e
  exact px_blk_ok (d := d + 3) (M := (pX_RX10, prog_1_method_18_code, 1, (some .int))) (C := wu_undo_orc) (code := wu_undo_code) (ld := []) (kl := []) (wu_undo_orc_ok) pX_ok_RX10 wu_undo_code_ok (px_k0) 17 25 _ _ h q e
set_option maxRecDepth 200000 in
theorem wu_undo_ok {d : Nat} {h : pH} {q : Int32 × pH} (e : wu_undo h = some q) : px_Con (d + 4) 136 [.inr (.inl 0)] h q :=
  px_con (X := pX_RX10) (b := prog_1_method_18_code) (nL := 1) (rt := (some .int)) rfl rfl (Nat.le_of_ble_eq_true rfl) rfl (px_blk_ok (d := d + 3) (M := (pX_RX10, prog_1_method_18_code, 1, (some .int))) (C := wu_undo_orc) (code := wu_undo_code) (ld := [25]) (kl := [(25, fun ls st h => px_if (px_fit [0] ls && px_fits [1] st) (wu_undo_25 (px_si st 0) h))]) (wu_undo_orc_ok) pX_ok_RX10 wu_undo_code_ok (px_k1 (px_ko (ts := [0]) (ss := [1]) fun ls st h q e => wu_undo_25_ok _ _ _ e) px_k0) 17 0 _ _ _ q e)
/-! WordsUnsaid.far(II)I -/
noncomputable def wu_far_24 (s0 : Int32) (h : pH) : pR :=
  some (s0, h)
noncomputable def wu_far (x1 : Int32) (x2 : Int32) (h : pH) : pR :=
  px_bind (cr_begin x1 (px_c (-1)) x2 h) fun z1 h2 =>
  if z1 = 0 then
    wu_far_24 (px_c (-1)) h2
  else
    wu_far_24 (h2 22 9) h2
def wu_far_code : pCode := [(0, .aload_n 0, 1), (1, .getfield 42, 3), (4, .iload_n 1, 1), (5, .iconst (-1), 1), (6, .iload_n 2, 1), (7, .invokevirtual 261, 3), (10, .ifCond .eq (13), 3), (13, .aload_n 0, 1), (14, .getfield 42, 3), (17, .getfield 265, 3), (20, .goto (4), 3), (23, .iconst (-1), 1), (24, .ireturn, 1)]
set_option maxRecDepth 200000 in
theorem wu_far_code_ok : px_code prog_1_method_19_code wu_far_code = true := by decide +kernel
noncomputable def wu_far_orc : pC := px_orc [(5, fun a h => match a with
    | [.inr (.inl 22), .inl v1, .inl v2, .inl v3] => cr_begin v1 v2 v3 h
    | _ => none)]
theorem wu_far_orc_ok {d : Nat} : px_Or (d + 5) (wu_far_orc) := px_orc_ok (by
  refine px_o1 (fun a h q e => by
    dsimp only at e
    split at e
    · exact cr_begin_ok (d := d + 0) e
    · cases e) ?_
  exact px_o0)
set_option maxRecDepth 200000 in
theorem wu_far_24_ok {d : Nat} : ∀ (s0 : Int32) (h : pH) (q : Int32 × pH), wu_far_24 s0 h = some q → px_G (d + 5 + 1) (pX_RX10, prog_1_method_19_code, 3, (some .int)) 24 [none, none, none] [.inl s0] h q := by
  intro s0 h q e
  exact px_blk_ok (d := d + 5) (M := (pX_RX10, prog_1_method_19_code, 3, (some .int))) (C := wu_far_orc) (code := wu_far_code) (ld := []) (kl := []) (wu_far_orc_ok) pX_ok_RX10 wu_far_code_ok (px_k0) 18 24 _ _ h q e
set_option maxRecDepth 200000 in
theorem wu_far_ok {d : Nat} {x1 : Int32} {x2 : Int32} {h : pH} {q : Int32 × pH} (e : wu_far x1 x2 h = some q) : px_Con (d + 6) 137 [.inr (.inl 0), .inl x1, .inl x2] h q :=
  px_con (X := pX_RX10) (b := prog_1_method_19_code) (nL := 3) (rt := (some .int)) rfl rfl (Nat.le_of_ble_eq_true rfl) rfl (px_blk_ok (d := d + 5) (M := (pX_RX10, prog_1_method_19_code, 3, (some .int))) (C := wu_far_orc) (code := wu_far_code) (ld := [24]) (kl := [(24, fun ls st h => px_if (px_fit [0, 0, 0] ls && px_fits [1] st) (wu_far_24 (px_si st 0) h))]) (wu_far_orc_ok) pX_ok_RX10 wu_far_code_ok (px_k1 (px_ko (ts := [0, 0, 0]) (ss := [1]) fun ls st h q e => wu_far_24_ok _ _ _ e) px_k0) 18 0 _ _ _ q e)
/-! WordsUnsaid.keeps(II)I -/
noncomputable def wu_keeps_80 (x5 : Int32) (s0 : Int32) (h : pH) : pR :=
  px_bind (tl_tell s0 h) fun _ h2 =>
  some (x5, h2)
noncomputable def wu_keeps (x1 : Int32) (x2 : Int32) (h : pH) : pR :=
  px_bind (hs_mayKeepBack x1 x2 h) fun z1 h2 =>
  if z1 = 0 then
    some (px_c (-1), h2)
  else
    let h3 := px_w h2 22 6 ((px_c 1) <<< (x1 &&& 31))
    px_bind (wu_at 8 x2 h3) fun z4 h5 =>
    let y4_6 := px_min z4 (px_c 60)
    px_bind (cr_kept x2 z4 (px_c 0) y4_6 h5) fun z7 h8 =>
    if y4_6 ≤ z7 then
      wu_keeps_80 z7 (px_c 0) h8
    else
      wu_keeps_80 z7 (h8 22 13) h8
def wu_keeps_code : pCode := [(0, .aload_n 0, 1), (1, .getfield 19, 3), (4, .iload_n 1, 1), (5, .iload_n 2, 1), (6, .invokevirtual 268, 3), (9, .ifCond .ne (5), 3), (12, .iconst (-1), 1), (13, .ireturn, 1), (14, .aload_n 0, 1), (15, .getfield 42, 3), (18, .iconst 1, 1), (19, .iload_n 1, 1), (20, .ishl, 1), (21, .putfield 272, 3), (24, .aload_n 0, 1), (25, .getfield 19, 3), (28, .getfield 157, 3), (31, .iload_n 2, 1), (32, .invokestatic 124, 3), (35, .istore_n 3, 1), (36, .iload_n 3, 1), (37, .bipush (60), 2), (39, .invokestatic 275, 3), (42, .istore 4, 2), (44, .aload_n 0, 1), (45, .getfield 42, 3), (48, .iload_n 2, 1), (49, .iload_n 3, 1), (50, .iconst 0, 1), (51, .iload 4, 2), (53, .invokevirtual 280, 3), (56, .istore 5, 2), (58, .aload_n 0, 1), (59, .getfield 75, 3), (62, .iload 5, 2), (64, .iload 4, 2), (66, .if_icmp .ge (13), 3), (69, .aload_n 0, 1), (70, .getfield 42, 3), (73, .getfield 284, 3), (76, .goto (4), 3), (79, .iconst 0, 1), (80, .invokevirtual 287, 3), (83, .iload 5, 2), (85, .ireturn, 1)]
set_option maxRecDepth 200000 in
theorem wu_keeps_code_ok : px_code prog_1_method_20_code wu_keeps_code = true := by decide +kernel
noncomputable def wu_keeps_orc : pC := px_orc [(83, fun a h => match a with
    | [.inr (.inl 45), .inl v1] => tl_tell v1 h
    | _ => none), (39, fun a h => match a with
    | [.inr (.inl 3), .inl v1, .inl v2] => hs_mayKeepBack v1 v2 h
    | _ => none), (158, fun a h => match a with
    | [.inr (.inl v0), .inl v1] => wu_at v0 v1 h
    | _ => none), (12, fun a h => match a with
    | [.inr (.inl 22), .inl v1, .inl v2, .inl v3, .inl v4] => cr_kept v1 v2 v3 v4 h
    | _ => none)]
theorem wu_keeps_orc_ok {d : Nat} : px_Or (d + 3) (wu_keeps_orc) := px_orc_ok (by
  refine px_o1 (fun a h q e => by
    dsimp only at e
    split at e
    · exact tl_tell_ok (d := d + 0) e
    · cases e) ?_
  refine px_o1 (fun a h q e => by
    dsimp only at e
    split at e
    · exact hs_mayKeepBack_ok (d := d + 0) e
    · cases e) ?_
  refine px_o1 (fun a h q e => by
    dsimp only at e
    split at e
    · exact wu_at_ok (d := d + 2) e
    · cases e) ?_
  refine px_o1 (fun a h q e => by
    dsimp only at e
    split at e
    · exact cr_kept_ok (d := d + 0) e
    · cases e) ?_
  exact px_o0)
set_option maxRecDepth 200000 in
theorem wu_keeps_80_ok {d : Nat} : ∀ (x5 : Int32) (s0 : Int32) (h : pH) (q : Int32 × pH), wu_keeps_80 x5 s0 h = some q → px_G (d + 3 + 1) (pX_RX10, prog_1_method_20_code, 6, (some .int)) 80 [none, none, none, none, none, some (.inl x5)] [.inl s0, .inr (.inl 45)] h q := by
  intro x5 s0 h q e
  exact px_blk_ok (d := d + 3) (M := (pX_RX10, prog_1_method_20_code, 6, (some .int))) (C := wu_keeps_orc) (code := wu_keeps_code) (ld := []) (kl := []) (wu_keeps_orc_ok) pX_ok_RX10 wu_keeps_code_ok (px_k0) 50 80 _ _ h q e
set_option maxRecDepth 200000 in
theorem wu_keeps_ok {d : Nat} {x1 : Int32} {x2 : Int32} {h : pH} {q : Int32 × pH} (e : wu_keeps x1 x2 h = some q) : px_Con (d + 4) 138 [.inr (.inl 0), .inl x1, .inl x2] h q :=
  px_con (X := pX_RX10) (b := prog_1_method_20_code) (nL := 6) (rt := (some .int)) rfl rfl (Nat.le_of_ble_eq_true rfl) rfl (px_blk_ok (d := d + 3) (M := (pX_RX10, prog_1_method_20_code, 6, (some .int))) (C := wu_keeps_orc) (code := wu_keeps_code) (ld := [80]) (kl := [(80, fun ls st h => px_if (px_fit [0, 0, 0, 0, 0, 1] ls && px_fits [1, 55] st) (wu_keeps_80 (px_gi ls 5) (px_si st 0) h))]) (wu_keeps_orc_ok) pX_ok_RX10 wu_keeps_code_ok (px_k1 (px_ko (ts := [0, 0, 0, 0, 0, 1]) (ss := [1, 55]) fun ls st h q e => wu_keeps_80_ok _ _ _ _ e) px_k0) 50 0 _ _ _ q e)
/-! WordsUnsaid.fewest(II)I -/
noncomputable def wu_fewest (x1 : Int32) (x2 : Int32) (h : pH) : pR :=
  px_bind (cr_begin x1 (px_c (-1)) x2 h) fun z1 h2 =>
  if z1 = 0 then
    some (px_c (-1), h2)
  else
    px_bind (wk_start (px_c 4) h2) fun _ h4 =>
    px_bind (wk_findShortest h4) fun z5 h6 =>
    if z5 = 0 then
      some (px_c (-2), h6)
    else
      px_bind (tl_clear h6) fun _ h8 =>
      px_bind (wk_tellBest z5 h8) fun _ h10 =>
      some (z5, h10)
def wu_fewest_code : pCode := [(0, .aload_n 0, 1), (1, .getfield 42, 3), (4, .iload_n 1, 1), (5, .iconst (-1), 1), (6, .iload_n 2, 1), (7, .invokevirtual 261, 3), (10, .ifCond .ne (5), 3), (13, .iconst (-1), 1), (14, .ireturn, 1), (15, .aload_n 0, 1), (16, .getfield 51, 3), (19, .iconst 4, 1), (20, .invokevirtual 289, 3), (23, .aload_n 0, 1), (24, .getfield 51, 3), (27, .invokevirtual 292, 3), (30, .istore_n 3, 1), (31, .iload_n 3, 1), (32, .ifCond .ne (6), 3), (35, .bipush (-2), 2), (37, .ireturn, 1), (38, .aload_n 0, 1), (39, .getfield 75, 3), (42, .invokevirtual 295, 3), (45, .aload_n 0, 1), (46, .getfield 51, 3), (49, .aload_n 0, 1), (50, .getfield 75, 3), (53, .iload_n 3, 1), (54, .invokevirtual 298, 3), (57, .iload_n 3, 1), (58, .ireturn, 1)]
set_option maxRecDepth 200000 in
theorem wu_fewest_code_ok : px_code prog_1_method_21_code wu_fewest_code = true := by decide +kernel
noncomputable def wu_fewest_orc : pC := px_orc [(5, fun a h => match a with
    | [.inr (.inl 22), .inl v1, .inl v2, .inl v3] => cr_begin v1 v2 v3 h
    | _ => none), (100, fun a h => match a with
    | [.inr (.inl 25), .inl v1] => wk_start v1 h
    | _ => none), (113, fun a h => match a with
    | [.inr (.inl 25)] => wk_findShortest h
    | _ => none), (81, fun a h => match a with
    | [.inr (.inl 45)] => tl_clear h
    | _ => none), (115, fun a h => match a with
    | [.inr (.inl 25), .inr (.inl 45), .inl v2] => wk_tellBest v2 h
    | _ => none)]
theorem wu_fewest_orc_ok {d : Nat} : px_Or (d + 6) (wu_fewest_orc) := px_orc_ok (by
  refine px_o1 (fun a h q e => by
    dsimp only at e
    split at e
    · exact cr_begin_ok (d := d + 1) e
    · cases e) ?_
  refine px_o1 (fun a h q e => by
    dsimp only at e
    split at e
    · exact wk_start_ok (d := d + 2) e
    · cases e) ?_
  refine px_o1 (fun a h q e => by
    dsimp only at e
    split at e
    · exact wk_findShortest_ok (d := d + 0) e
    · cases e) ?_
  refine px_o1 (fun a h q e => by
    dsimp only at e
    split at e
    · exact tl_clear_ok (d := d + 5) e
    · cases e) ?_
  refine px_o1 (fun a h q e => by
    dsimp only at e
    split at e
    · exact wk_tellBest_ok (d := d + 3) e
    · cases e) ?_
  exact px_o0)
set_option maxRecDepth 200000 in
theorem wu_fewest_ok {d : Nat} {x1 : Int32} {x2 : Int32} {h : pH} {q : Int32 × pH} (e : wu_fewest x1 x2 h = some q) : px_Con (d + 7) 139 [.inr (.inl 0), .inl x1, .inl x2] h q :=
  px_con (X := pX_RX10) (b := prog_1_method_21_code) (nL := 4) (rt := (some .int)) rfl rfl (Nat.le_of_ble_eq_true rfl) rfl (px_blk_ok (d := d + 6) (M := (pX_RX10, prog_1_method_21_code, 4, (some .int))) (C := wu_fewest_orc) (code := wu_fewest_code) (ld := []) (kl := []) (wu_fewest_orc_ok) pX_ok_RX10 wu_fewest_code_ok (px_k0) 37 0 _ _ _ q e)
/-! WordsUnsaid.rows(II)I -/
noncomputable def wu_rows_94 (x3 : Int32) (x4 : Int32) (h : pH) : pR :=
  px_bind (tl_tell x4 h) fun _ h2 =>
  some (x3, h2)
noncomputable def wu_rows_85 (r31 : Int32 → Int32 → Int32 → pH → pR) (x3 : Int32) (x5 : Int32) (s0 : Int32) (s1 : Int32) (h : pH) : pR :=
  let y4_1 := s1 + s0
  r31 x3 y4_1 (x5 + px_c 1) h
noncomputable def wu_rows_66 (r31 : Int32 → Int32 → Int32 → pH → pR) (x4 : Int32) (x5 : Int32) (s0 : Int32) (s1 : Int32) (h : pH) : pR :=
  let y3_1 := s1 + s0
  px_bind (wk_isBurst h) fun z2 h3 =>
  if z2 = 0 then
    wu_rows_85 r31 y3_1 x5 (px_c 0) x4 h3
  else
    wu_rows_85 r31 y3_1 x5 (px_c 1) x4 h3
noncomputable def wu_rows_31 : Nat → Int32 → Int32 → Int32 → pH → pR
  | 0, _, _, _, _ => none
  | n + 1, x3, x4, x5, h =>
    if (px_k 1000000) ≤ x5 then
      wu_rows_94 x3 x4 h
    else
      px_bind (wk_next (px_c 1) h) fun z1 h2 =>
      if z1 = 0 then
        wu_rows_94 x3 x4 h2
      else
        px_bind (wk_isOver h2) fun z3 h4 =>
        if z3 = 0 then
          wu_rows_66 (wu_rows_31 n) x4 x5 (px_c 0) x3 h4
        else
          wu_rows_66 (wu_rows_31 n) x4 x5 (px_c 1) x3 h4
noncomputable def wu_rows (x1 : Int32) (x2 : Int32) (h : pH) : pR :=
  px_bind (cr_begin x1 (px_c (-1)) x2 h) fun z1 h2 =>
  if z1 = 0 then
    some (px_c (-1), h2)
  else
    px_bind (wk_start (px_c 3) h2) fun _ h4 =>
    wu_rows_31 px_F (px_c 0) (px_c 0) (px_c 0) h4
def wu_rows_code : pCode := [(0, .aload_n 0, 1), (1, .getfield 42, 3), (4, .iload_n 1, 1), (5, .iconst (-1), 1), (6, .iload_n 2, 1), (7, .invokevirtual 261, 3), (10, .ifCond .ne (5), 3), (13, .iconst (-1), 1), (14, .ireturn, 1), (15, .iconst 0, 1), (16, .istore_n 3, 1), (17, .iconst 0, 1), (18, .istore 4, 2), (20, .aload_n 0, 1), (21, .getfield 51, 3), (24, .iconst 3, 1), (25, .invokevirtual 289, 3), (28, .iconst 0, 1), (29, .istore 5, 2), (31, .iload 5, 2), (33, .ldc_w 302, 3), (36, .if_icmp .ge (58), 3), (39, .aload_n 0, 1), (40, .getfield 51, 3), (43, .iconst 1, 1), (44, .invokevirtual 303, 3), (47, .ifCond .eq (47), 3), (50, .iload_n 3, 1), (51, .aload_n 0, 1), (52, .getfield 51, 3), (55, .invokevirtual 307, 3), (58, .ifCond .eq (7), 3), (61, .iconst 1, 1), (62, .goto (4), 3), (65, .iconst 0, 1), (66, .iadd, 1), (67, .istore_n 3, 1), (68, .iload 4, 2), (70, .aload_n 0, 1), (71, .getfield 51, 3), (74, .invokevirtual 310, 3), (77, .ifCond .eq (7), 3), (80, .iconst 1, 1), (81, .goto (4), 3), (84, .iconst 0, 1), (85, .iadd, 1), (86, .istore 4, 2), (88, .iinc 5 (1), 3), (91, .goto (-60), 3), (94, .aload_n 0, 1), (95, .getfield 75, 3), (98, .iload 4, 2), (100, .invokevirtual 287, 3), (103, .iload_n 3, 1), (104, .ireturn, 1)]
set_option maxRecDepth 200000 in
theorem wu_rows_code_ok : px_code prog_1_method_22_code wu_rows_code = true := by decide +kernel
noncomputable def wu_rows_orc : pC := px_orc [(83, fun a h => match a with
    | [.inr (.inl 45), .inl v1] => tl_tell v1 h
    | _ => none), (112, fun a h => match a with
    | [.inr (.inl 25)] => wk_isBurst h
    | _ => none), (103, fun a h => match a with
    | [.inr (.inl 25), .inl v1] => wk_next v1 h
    | _ => none), (111, fun a h => match a with
    | [.inr (.inl 25)] => wk_isOver h
    | _ => none), (5, fun a h => match a with
    | [.inr (.inl 22), .inl v1, .inl v2, .inl v3] => cr_begin v1 v2 v3 h
    | _ => none), (100, fun a h => match a with
    | [.inr (.inl 25), .inl v1] => wk_start v1 h
    | _ => none)]
theorem wu_rows_orc_ok {d : Nat} : px_Or (d + 5) (wu_rows_orc) := px_orc_ok (by
  refine px_o1 (fun a h q e => by
    dsimp only at e
    split at e
    · exact tl_tell_ok (d := d + 2) e
    · cases e) ?_
  refine px_o1 (fun a h q e => by
    dsimp only at e
    split at e
    · exact wk_isBurst_ok (d := d + 2) e
    · cases e) ?_
  refine px_o1 (fun a h q e => by
    dsimp only at e
    split at e
    · exact wk_next_ok (d := d + 0) e
    · cases e) ?_
  refine px_o1 (fun a h q e => by
    dsimp only at e
    split at e
    · exact wk_isOver_ok (d := d + 2) e
    · cases e) ?_
  refine px_o1 (fun a h q e => by
    dsimp only at e
    split at e
    · exact cr_begin_ok (d := d + 0) e
    · cases e) ?_
  refine px_o1 (fun a h q e => by
    dsimp only at e
    split at e
    · exact wk_start_ok (d := d + 1) e
    · cases e) ?_
  exact px_o0)
set_option maxRecDepth 200000 in
theorem wu_rows_94_ok {d : Nat} : ∀ (x3 : Int32) (x4 : Int32) (h : pH) (q : Int32 × pH), wu_rows_94 x3 x4 h = some q → px_G (d + 5 + 1) (pX_RX10, prog_1_method_22_code, 6, (some .int)) 94 [some (.inr (.inl 0)), none, none, some (.inl x3), some (.inl x4), none] [] h q := by
  intro x3 x4 h q e
  exact px_blk_ok (d := d + 5) (M := (pX_RX10, prog_1_method_22_code, 6, (some .int))) (C := wu_rows_orc) (code := wu_rows_code) (ld := []) (kl := []) (wu_rows_orc_ok) pX_ok_RX10 wu_rows_code_ok (px_k0) 60 94 _ _ h q e
set_option maxRecDepth 200000 in
theorem wu_rows_85_ok {d : Nat} {r31 : Int32 → Int32 → Int32 → pH → pR} (hr31 : ∀ (x3 : Int32) (x4 : Int32) (x5 : Int32) (h : pH) (q : Int32 × pH), r31 x3 x4 x5 h = some q → px_G (d + 5 + 1) (pX_RX10, prog_1_method_22_code, 6, (some .int)) 31 [some (.inr (.inl 0)), none, none, some (.inl x3), some (.inl x4), some (.inl x5)] [] h q) : ∀ (x3 : Int32) (x5 : Int32) (s0 : Int32) (s1 : Int32) (h : pH) (q : Int32 × pH), wu_rows_85 r31 x3 x5 s0 s1 h = some q → px_G (d + 5 + 1) (pX_RX10, prog_1_method_22_code, 6, (some .int)) 85 [some (.inr (.inl 0)), none, none, some (.inl x3), none, some (.inl x5)] [.inl s0, .inl s1] h q := by
  intro x3 x5 s0 s1 h q e
  exact px_blk_ok (d := d + 5) (M := (pX_RX10, prog_1_method_22_code, 6, (some .int))) (C := wu_rows_orc) (code := wu_rows_code) (ld := [31]) (kl := [(31, fun ls st h => px_if (px_fit [10, 0, 0, 1, 1, 1] ls && px_fits [] st) (r31 (px_gi ls 3) (px_gi ls 4) (px_gi ls 5) h))]) (wu_rows_orc_ok) pX_ok_RX10 wu_rows_code_ok (px_k1 (px_ko (ts := [10, 0, 0, 1, 1, 1]) (ss := []) fun ls st h q e => hr31 _ _ _ _ _ e) px_k0) 60 85 _ _ h q e
set_option maxRecDepth 200000 in
theorem wu_rows_66_ok {d : Nat} {r31 : Int32 → Int32 → Int32 → pH → pR} (hr31 : ∀ (x3 : Int32) (x4 : Int32) (x5 : Int32) (h : pH) (q : Int32 × pH), r31 x3 x4 x5 h = some q → px_G (d + 5 + 1) (pX_RX10, prog_1_method_22_code, 6, (some .int)) 31 [some (.inr (.inl 0)), none, none, some (.inl x3), some (.inl x4), some (.inl x5)] [] h q) : ∀ (x4 : Int32) (x5 : Int32) (s0 : Int32) (s1 : Int32) (h : pH) (q : Int32 × pH), wu_rows_66 r31 x4 x5 s0 s1 h = some q → px_G (d + 5 + 1) (pX_RX10, prog_1_method_22_code, 6, (some .int)) 66 [some (.inr (.inl 0)), none, none, none, some (.inl x4), some (.inl x5)] [.inl s0, .inl s1] h q := by
  intro x4 x5 s0 s1 h q e
  exact px_blk_ok (d := d + 5) (M := (pX_RX10, prog_1_method_22_code, 6, (some .int))) (C := wu_rows_orc) (code := wu_rows_code) (ld := [85]) (kl := [(85, fun ls st h => px_if (px_fit [10, 0, 0, 1, 0, 1] ls && px_fits [1, 1] st) (wu_rows_85 r31 (px_gi ls 3) (px_gi ls 5) (px_si st 0) (px_si st 1) h))]) (wu_rows_orc_ok) pX_ok_RX10 wu_rows_code_ok (px_k1 (px_ko (ts := [10, 0, 0, 1, 0, 1]) (ss := [1, 1]) fun ls st h q e => wu_rows_85_ok hr31 _ _ _ _ _ _ e) px_k0) 60 66 _ _ h q e
set_option maxRecDepth 200000 in
theorem wu_rows_31_ok {d : Nat} : ∀ (n : Nat) (x3 : Int32) (x4 : Int32) (x5 : Int32) (h : pH) (q : Int32 × pH), wu_rows_31 n x3 x4 x5 h = some q → px_G (d + 5 + 1) (pX_RX10, prog_1_method_22_code, 6, (some .int)) 31 [some (.inr (.inl 0)), none, none, some (.inl x3), some (.inl x4), some (.inl x5)] [] h q := by
  intro n
  induction n with
  | zero =>
    intro x3 x4 x5 h q e
    cases e
  | succ n ih =>
    intro x3 x4 x5 h q e
    exact px_blk_ok (d := d + 5) (M := (pX_RX10, prog_1_method_22_code, 6, (some .int))) (C := wu_rows_orc) (code := wu_rows_code) (ld := [66, 94]) (kl := [(66, fun ls st h => px_if (px_fit [10, 0, 0, 0, 1, 1] ls && px_fits [1, 1] st) (wu_rows_66 (wu_rows_31 n) (px_gi ls 4) (px_gi ls 5) (px_si st 0) (px_si st 1) h)), (94, fun ls st h => px_if (px_fit [10, 0, 0, 1, 1, 0] ls && px_fits [] st) (wu_rows_94 (px_gi ls 3) (px_gi ls 4) h))]) (wu_rows_orc_ok) pX_ok_RX10 wu_rows_code_ok (px_k1 (px_ko (ts := [10, 0, 0, 0, 1, 1]) (ss := [1, 1]) fun ls st h q e => wu_rows_66_ok ih _ _ _ _ _ _ e) (px_k1 (px_ko (ts := [10, 0, 0, 1, 1, 0]) (ss := []) fun ls st h q e => wu_rows_94_ok _ _ _ _ e) px_k0)) 60 31 _ _ h q e
set_option maxRecDepth 200000 in
theorem wu_rows_ok {d : Nat} {x1 : Int32} {x2 : Int32} {h : pH} {q : Int32 × pH} (e : wu_rows x1 x2 h = some q) : px_Con (d + 6) 140 [.inr (.inl 0), .inl x1, .inl x2] h q :=
  px_con (X := pX_RX10) (b := prog_1_method_22_code) (nL := 6) (rt := (some .int)) rfl rfl (Nat.le_of_ble_eq_true rfl) rfl (px_blk_ok (d := d + 5) (M := (pX_RX10, prog_1_method_22_code, 6, (some .int))) (C := wu_rows_orc) (code := wu_rows_code) (ld := [31]) (kl := [(31, fun ls st h => px_if (px_fit [10, 0, 0, 1, 1, 1] ls && px_fits [] st) (wu_rows_31 px_F (px_gi ls 3) (px_gi ls 4) (px_gi ls 5) h))]) (wu_rows_orc_ok) pX_ok_RX10 wu_rows_code_ok (px_k1 (px_ko (ts := [10, 0, 0, 1, 1, 1]) (ss := []) fun ls st h q e => wu_rows_31_ok _ _ _ _ _ _ e) px_k0) 60 0 _ _ _ q e)
/-! WordsUnsaid$Walk.tellBest(LWordsUnsaid$Tale;I)V -/
noncomputable def wk_tellBest_h_2 : Nat → Int32 → Int32 → pH → pR
  | 0, _, _, _ => none
  | n + 1, x2, x3, h =>
    if x2 ≤ x3 then
      some (0, h)
    else
      px_bind (wu_at 36 x3 h) fun z1 h2 =>
      px_bind (tl_add z1 h2) fun _ h4 =>
      wk_tellBest_h_2 n x2 (x3 + px_c 1) h4
noncomputable def wk_tellBest_h (x2 : Int32) (h : pH) : pR :=
  wk_tellBest_h_2 px_F x2 (px_c 0) h
def wk_tellBest_h_code : pCode := [(0, .iconst 0, 1), (1, .istore_n 3, 1), (2, .iload_n 3, 1), (3, .iload_n 2, 1), (4, .if_icmp .ge (21), 3), (7, .aload_n 1, 1), (8, .aload_n 0, 1), (9, .getfield 26, 3), (12, .iload_n 3, 1), (13, .invokestatic 44, 3), (16, .invokevirtual 131, 3), (19, .iinc 3 (1), 3), (22, .goto (-20), 3), (25, .return_, 1)]
set_option maxRecDepth 200000 in
theorem wk_tellBest_h_code_ok : px_code prog_11_method_17_code wk_tellBest_h_code = true := by decide +kernel
noncomputable def wk_tellBest_h_orc : pC := px_orc [(158, fun a h => match a with
    | [.inr (.inl v0), .inl v1] => wu_at v0 v1 h
    | _ => none), (82, fun a h => match a with
    | [.inr (.inl 45), .inl v1] => tl_add v1 h
    | _ => none)]
theorem wk_tellBest_h_orc_ok {d : Nat} : px_Or (d + 2) (wk_tellBest_h_orc) := px_orc_ok (by
  refine px_o1 (fun a h q e => by
    dsimp only at e
    split at e
    · exact wu_at_ok (d := d + 1) e
    · cases e) ?_
  refine px_o1 (fun a h q e => by
    dsimp only at e
    split at e
    · exact tl_add_ok (d := d + 0) e
    · cases e) ?_
  exact px_o0)
set_option maxRecDepth 200000 in
theorem wk_tellBest_h_2_ok {d : Nat} : ∀ (n : Nat) (x2 : Int32) (x3 : Int32) (h : pH) (q : Int32 × pH), wk_tellBest_h_2 n x2 x3 h = some q → px_G (d + 2 + 1) (pX_RX9, prog_11_method_17_code, 4, none) 2 [some (.inr (.inl 33)), some (.inr (.inl 45)), some (.inl x2), some (.inl x3)] [] h q := by
  intro n
  induction n with
  | zero =>
    intro x2 x3 h q e
    cases e
  | succ n ih =>
    intro x2 x3 h q e
    exact px_blk_ok (d := d + 2) (M := (pX_RX9, prog_11_method_17_code, 4, none)) (C := wk_tellBest_h_orc) (code := wk_tellBest_h_code) (ld := [2]) (kl := [(2, fun ls st h => px_if (px_fit [43, 55, 1, 1] ls && px_fits [] st) (wk_tellBest_h_2 n (px_gi ls 2) (px_gi ls 3) h))]) (wk_tellBest_h_orc_ok) pX_ok_RX9 wk_tellBest_h_code_ok (px_k1 (px_ko (ts := [43, 55, 1, 1]) (ss := []) fun ls st h q e => ih _ _ _ _ e) px_k0) 19 2 _ _ h q e
set_option maxRecDepth 200000 in
theorem wk_tellBest_h_ok {d : Nat} {x2 : Int32} {h : pH} {q : Int32 × pH} (e : wk_tellBest_h x2 h = some q) : px_Con (d + 3) 115 [.inr (.inl 33), .inr (.inl 45), .inl x2] h q :=
  px_con (X := pX_RX9) (b := prog_11_method_17_code) (nL := 4) (rt := none) rfl rfl (Nat.le_of_ble_eq_true rfl) rfl (px_blk_ok (d := d + 2) (M := (pX_RX9, prog_11_method_17_code, 4, none)) (C := wk_tellBest_h_orc) (code := wk_tellBest_h_code) (ld := [2]) (kl := [(2, fun ls st h => px_if (px_fit [43, 55, 1, 1] ls && px_fits [] st) (wk_tellBest_h_2 px_F (px_gi ls 2) (px_gi ls 3) h))]) (wk_tellBest_h_orc_ok) pX_ok_RX9 wk_tellBest_h_code_ok (px_k1 (px_ko (ts := [43, 55, 1, 1]) (ss := []) fun ls st h q e => wk_tellBest_h_2_ok _ _ _ _ _ e) px_k0) 19 0 _ _ _ q e)
/-! WordsUnsaid.tellBothWays(I)V -/
noncomputable def wu_tellBothWays (x1 : Int32) (h : pH) : pR :=
  px_bind (tl_clear h) fun _ h2 =>
  px_bind (tl_add (h2 25 9) h2) fun _ h4 =>
  px_bind (wk_tellRow h4) fun _ h6 =>
  px_bind (wk_tellBest_h x1 h6) fun _ h8 =>
  some (0, h8)
def wu_tellBothWays_code : pCode := [(0, .aload_n 0, 1), (1, .getfield 75, 3), (4, .invokevirtual 295, 3), (7, .aload_n 0, 1), (8, .getfield 75, 3), (11, .aload_n 0, 1), (12, .getfield 51, 3), (15, .getfield 319, 3), (18, .invokevirtual 482, 3), (21, .aload_n 0, 1), (22, .getfield 51, 3), (25, .aload_n 0, 1), (26, .getfield 75, 3), (29, .invokevirtual 391, 3), (32, .aload_n 0, 1), (33, .getfield 55, 3), (36, .aload_n 0, 1), (37, .getfield 75, 3), (40, .iload_n 1, 1), (41, .invokevirtual 298, 3), (44, .return_, 1)]
set_option maxRecDepth 200000 in
theorem wu_tellBothWays_code_ok : px_code prog_1_method_51_code wu_tellBothWays_code = true := by decide +kernel
noncomputable def wu_tellBothWays_orc : pC := px_orc [(81, fun a h => match a with
    | [.inr (.inl 45)] => tl_clear h
    | _ => none), (82, fun a h => match a with
    | [.inr (.inl 45), .inl v1] => tl_add v1 h
    | _ => none), (116, fun a h => match a with
    | [.inr (.inl 25), .inr (.inl 45)] => wk_tellRow h
    | _ => none), (115, fun a h => match a with
    | [.inr (.inl 33), .inr (.inl 45), .inl v2] => wk_tellBest_h v2 h
    | _ => none)]
theorem wu_tellBothWays_orc_ok {d : Nat} : px_Or (d + 3) (wu_tellBothWays_orc) := px_orc_ok (by
  refine px_o1 (fun a h q e => by
    dsimp only at e
    split at e
    · exact tl_clear_ok (d := d + 2) e
    · cases e) ?_
  refine px_o1 (fun a h q e => by
    dsimp only at e
    split at e
    · exact tl_add_ok (d := d + 1) e
    · cases e) ?_
  refine px_o1 (fun a h q e => by
    dsimp only at e
    split at e
    · exact wk_tellRow_ok (d := d + 0) e
    · cases e) ?_
  refine px_o1 (fun a h q e => by
    dsimp only at e
    split at e
    · exact wk_tellBest_h_ok (d := d + 0) e
    · cases e) ?_
  exact px_o0)
set_option maxRecDepth 200000 in
theorem wu_tellBothWays_ok {d : Nat} {x1 : Int32} {h : pH} {q : Int32 × pH} (e : wu_tellBothWays x1 h = some q) : px_Con (d + 4) 169 [.inr (.inl 0), .inl x1] h q :=
  px_con (X := pX_RX10) (b := prog_1_method_51_code) (nL := 2) (rt := none) rfl rfl (Nat.le_of_ble_eq_true rfl) rfl (px_blk_ok (d := d + 3) (M := (pX_RX10, prog_1_method_51_code, 2, none)) (C := wu_tellBothWays_orc) (code := wu_tellBothWays_code) (ld := []) (kl := []) (wu_tellBothWays_orc_ok) pX_ok_RX10 wu_tellBothWays_code_ok (px_k0) 26 0 _ _ _ q e)
/-! WordsUnsaid$Walk.leaveTo(LWordsUnsaid$Walk;)V -/
noncomputable def wk_leaveTo_34 : Nat → Int32 → Int32 → pH → pR
  | 0, _, _, _ => none
  | n + 1, x2, x3, h =>
    if (h 25 9) ≤ x3 then
      some (0, h)
    else
      px_bind (wu_at 27 x3 h) fun z1 h2 =>
      px_bind (wu_at 26 z1 h2) fun z3 h4 =>
      px_bind (wu_at 29 x3 h4) fun z5 h6 =>
      px_bind (wu_put 34 z1 (z3 - (z5 - x2)) h6) fun _ h8 =>
      px_bind (wu_at 29 x3 h8) fun z9 h10 =>
      wk_leaveTo_34 n z9 (x3 + px_c 1) h10
noncomputable def wk_leaveTo_2 : Nat → Int32 → pH → pR
  | 0, _, _ => none
  | n + 1, x2, h =>
    if (px_c 10) ≤ x2 then
      wk_leaveTo_34 px_F (px_c 0) (px_c 0) h
    else
      px_bind (wu_at 26 x2 h) fun z1 h2 =>
      px_bind (wu_put 34 x2 z1 h2) fun _ h4 =>
      wk_leaveTo_2 n (x2 + px_c 1) h4
noncomputable def wk_leaveTo (h : pH) : pR :=
  wk_leaveTo_2 px_F (px_c 0) h
def wk_leaveTo_code : pCode := [(0, .iconst 0, 1), (1, .istore_n 2, 1), (2, .iload_n 2, 1), (3, .bipush (10), 2), (5, .if_icmp .ge (25), 3), (8, .aload_n 1, 1), (9, .getfield 19, 3), (12, .iload_n 2, 1), (13, .aload_n 0, 1), (14, .getfield 19, 3), (17, .iload_n 2, 1), (18, .invokestatic 44, 3), (21, .invokestatic 48, 3), (24, .iinc 2 (1), 3), (27, .goto (-25), 3), (30, .iconst 0, 1), (31, .istore_n 2, 1), (32, .iconst 0, 1), (33, .istore_n 3, 1), (34, .iload_n 3, 1), (35, .aload_n 0, 1), (36, .getfield 66, 3), (39, .if_icmp .ge (57), 3), (42, .aload_n 0, 1), (43, .getfield 23, 3), (46, .iload_n 3, 1), (47, .invokestatic 44, 3), (50, .istore 4, 2), (52, .aload_n 1, 1), (53, .getfield 19, 3), (56, .iload 4, 2), (58, .aload_n 0, 1), (59, .getfield 19, 3), (62, .iload 4, 2), (64, .invokestatic 44, 3), (67, .aload_n 0, 1), (68, .getfield 29, 3), (71, .iload_n 3, 1), (72, .invokestatic 44, 3), (75, .iload_n 2, 1), (76, .isub, 1), (77, .isub, 1), (78, .invokestatic 48, 3), (81, .aload_n 0, 1), (82, .getfield 29, 3), (85, .iload_n 3, 1), (86, .invokestatic 44, 3), (89, .istore_n 2, 1), (90, .iinc 3 (1), 3), (93, .goto (-59), 3), (96, .return_, 1)]
set_option maxRecDepth 200000 in
theorem wk_leaveTo_code_ok : px_code prog_11_method_4_code wk_leaveTo_code = true := by decide +kernel
noncomputable def wk_leaveTo_orc : pC := px_orc [(158, fun a h => match a with
    | [.inr (.inl v0), .inl v1] => wu_at v0 v1 h
    | _ => none), (159, fun a h => match a with
    | [.inr (.inl v0), .inl v1, .inl v2] => wu_put v0 v1 v2 h
    | _ => none)]
theorem wk_leaveTo_orc_ok {d : Nat} : px_Or (d + 1) (wk_leaveTo_orc) := px_orc_ok (by
  refine px_o1 (fun a h q e => by
    dsimp only at e
    split at e
    · exact wu_at_ok (d := d + 0) e
    · cases e) ?_
  refine px_o1 (fun a h q e => by
    dsimp only at e
    split at e
    · exact wu_put_ok (d := d + 0) e
    · cases e) ?_
  exact px_o0)
set_option maxRecDepth 200000 in
theorem wk_leaveTo_34_ok {d : Nat} : ∀ (n : Nat) (x2 : Int32) (x3 : Int32) (h : pH) (q : Int32 × pH), wk_leaveTo_34 n x2 x3 h = some q → px_G (d + 1 + 1) (pX_RX9, prog_11_method_4_code, 5, none) 34 [some (.inr (.inl 25)), some (.inr (.inl 33)), some (.inl x2), some (.inl x3), none] [] h q := by
  intro n
  induction n with
  | zero =>
    intro x2 x3 h q e
    cases e
  | succ n ih =>
    intro x2 x3 h q e
    exact px_blk_ok (d := d + 1) (M := (pX_RX9, prog_11_method_4_code, 5, none)) (C := wk_leaveTo_orc) (code := wk_leaveTo_code) (ld := [34]) (kl := [(34, fun ls st h => px_if (px_fit [35, 43, 1, 1, 0] ls && px_fits [] st) (wk_leaveTo_34 n (px_gi ls 2) (px_gi ls 3) h))]) (wk_leaveTo_orc_ok) pX_ok_RX9 wk_leaveTo_code_ok (px_k1 (px_ko (ts := [35, 43, 1, 1, 0]) (ss := []) fun ls st h q e => ih _ _ _ _ e) px_k0) 56 34 _ _ h q e
set_option maxRecDepth 200000 in
theorem wk_leaveTo_2_ok {d : Nat} : ∀ (n : Nat) (x2 : Int32) (h : pH) (q : Int32 × pH), wk_leaveTo_2 n x2 h = some q → px_G (d + 1 + 1) (pX_RX9, prog_11_method_4_code, 5, none) 2 [some (.inr (.inl 25)), some (.inr (.inl 33)), some (.inl x2), none, none] [] h q := by
  intro n
  induction n with
  | zero =>
    intro x2 h q e
    cases e
  | succ n ih =>
    intro x2 h q e
    exact px_blk_ok (d := d + 1) (M := (pX_RX9, prog_11_method_4_code, 5, none)) (C := wk_leaveTo_orc) (code := wk_leaveTo_code) (ld := [2, 34]) (kl := [(2, fun ls st h => px_if (px_fit [35, 43, 1, 0, 0] ls && px_fits [] st) (wk_leaveTo_2 n (px_gi ls 2) h)), (34, fun ls st h => px_if (px_fit [35, 43, 1, 1, 0] ls && px_fits [] st) (wk_leaveTo_34 px_F (px_gi ls 2) (px_gi ls 3) h))]) (wk_leaveTo_orc_ok) pX_ok_RX9 wk_leaveTo_code_ok (px_k1 (px_ko (ts := [35, 43, 1, 0, 0]) (ss := []) fun ls st h q e => ih _ _ _ e) (px_k1 (px_ko (ts := [35, 43, 1, 1, 0]) (ss := []) fun ls st h q e => wk_leaveTo_34_ok _ _ _ _ _ e) px_k0)) 56 2 _ _ h q e
set_option maxRecDepth 200000 in
theorem wk_leaveTo_ok {d : Nat} {h : pH} {q : Int32 × pH} (e : wk_leaveTo h = some q) : px_Con (d + 2) 102 [.inr (.inl 25), .inr (.inl 33)] h q :=
  px_con (X := pX_RX9) (b := prog_11_method_4_code) (nL := 5) (rt := none) rfl rfl (Nat.le_of_ble_eq_true rfl) rfl (px_blk_ok (d := d + 1) (M := (pX_RX9, prog_11_method_4_code, 5, none)) (C := wk_leaveTo_orc) (code := wk_leaveTo_code) (ld := [2]) (kl := [(2, fun ls st h => px_if (px_fit [35, 43, 1, 0, 0] ls && px_fits [] st) (wk_leaveTo_2 px_F (px_gi ls 2) h))]) (wk_leaveTo_orc_ok) pX_ok_RX9 wk_leaveTo_code_ok (px_k1 (px_ko (ts := [35, 43, 1, 0, 0]) (ss := []) fun ls st h q e => wk_leaveTo_2_ok _ _ _ _ e) px_k0) 56 0 _ _ _ q e)
/-! WordsUnsaid$Walk.startOnLeft(I)V -/
noncomputable def wk_startOnLeft_h_114 (r26 : Int32 → pH → pR) (x2 : Int32) (s0 : Int32) (h : pH) : pR :=
  let h1 := px_w h 33 12 s0
  r26 (x2 + px_c 1) h1
noncomputable def wk_startOnLeft_h_83 (r26 : Int32 → pH → pR) (x2 : Int32) (x3 : Int32) (s0 : Int32) (s1 : Int32) (h : pH) : pR :=
  let h1 := px_w h 33 11 (s1 ||| s0)
  if x3 = 0 then
    wk_startOnLeft_h_114 r26 x2 (h1 33 12) h1
  else
    px_bind (wu_at 34 x2 h1) fun z2 h3 =>
    wk_startOnLeft_h_114 r26 x2 (px_max (h1 33 12) z2) h3
noncomputable def wk_startOnLeft_h_66 (r26 : Int32 → pH → pR) (x2 : Int32) (s0 : Int32) (h : pH) : pR :=
  if s0 = 0 then
    wk_startOnLeft_h_83 r26 x2 s0 (px_c 0) (h 33 11) h
  else
    wk_startOnLeft_h_83 r26 x2 s0 ((px_c 1) <<< (x2 &&& 31)) (h 33 11) h
noncomputable def wk_startOnLeft_h_65 (r26 : Int32 → pH → pR) (x2 : Int32) (h : pH) : pR :=
  wk_startOnLeft_h_66 r26 x2 (px_c 0) h
noncomputable def wk_startOnLeft_h_26 : Nat → Int32 → pH → pR
  | 0, _, _ => none
  | n + 1, x2, h =>
    if (px_c 10) ≤ x2 then
      some (0, h)
    else
      px_bind (hs_isUnsaidOf (h 22 6) x2 h) fun z1 h2 =>
      if z1 = 0 then
        wk_startOnLeft_h_65 (wk_startOnLeft_h_26 n) x2 h2
      else
        px_bind (wu_at 34 x2 h2) fun z3 h4 =>
        if z3 ≤ 0 then
          wk_startOnLeft_h_65 (wk_startOnLeft_h_26 n) x2 h4
        else
          wk_startOnLeft_h_66 (wk_startOnLeft_h_26 n) x2 (px_c 1) h4
noncomputable def wk_startOnLeft_h (x1 : Int32) (h : pH) : pR :=
  let h1 := px_w h 33 10 (px_min x1 (px_c 4))
  let h2 := px_w h1 33 9 (px_c 0)
  let h3 := px_w h2 33 11 (px_c 0)
  let h4 := px_w h3 33 12 (px_c 0)
  wk_startOnLeft_h_26 px_F (px_c 0) h4
def wk_startOnLeft_h_code : pCode := [(0, .aload_n 0, 1), (1, .iload_n 1, 1), (2, .iconst 4, 1), (3, .invokestatic 56, 3), (6, .putfield 62, 3), (9, .aload_n 0, 1), (10, .iconst 0, 1), (11, .putfield 66, 3), (14, .aload_n 0, 1), (15, .iconst 0, 1), (16, .putfield 69, 3), (19, .aload_n 0, 1), (20, .iconst 0, 1), (21, .putfield 72, 3), (24, .iconst 0, 1), (25, .istore_n 2, 1), (26, .iload_n 2, 1), (27, .bipush (10), 2), (29, .if_icmp .ge (94), 3), (32, .aload_n 0, 1), (33, .getfield 9, 3), (36, .aload_n 0, 1), (37, .getfield 15, 3), (40, .getfield 75, 3), (43, .iload_n 2, 1), (44, .invokevirtual 80, 3), (47, .ifCond .eq (18), 3), (50, .aload_n 0, 1), (51, .getfield 19, 3), (54, .iload_n 2, 1), (55, .invokestatic 44, 3), (58, .ifCond .le (7), 3), (61, .iconst 1, 1), (62, .goto (4), 3), (65, .iconst 0, 1), (66, .istore_n 3, 1), (67, .aload_n 0, 1), (68, .dup, 1), (69, .getfield 69, 3), (72, .iload_n 3, 1), (73, .ifCond .eq (9), 3), (76, .iconst 1, 1), (77, .iload_n 2, 1), (78, .ishl, 1), (79, .goto (4), 3), (82, .iconst 0, 1), (83, .ior, 1), (84, .putfield 69, 3), (87, .aload_n 0, 1), (88, .iload_n 3, 1), (89, .ifCond .eq (21), 3), (92, .aload_n 0, 1), (93, .getfield 72, 3), (96, .aload_n 0, 1), (97, .getfield 19, 3), (100, .iload_n 2, 1), (101, .invokestatic 44, 3), (104, .invokestatic 84, 3), (107, .goto (7), 3), (110, .aload_n 0, 1), (111, .getfield 72, 3), (114, .putfield 72, 3), (117, .iinc 2 (1), 3), (120, .goto (-94), 3), (123, .return_, 1)]
set_option maxRecDepth 200000 in
theorem wk_startOnLeft_h_code_ok : px_code prog_11_method_3_code wk_startOnLeft_h_code = true := by decide +kernel
noncomputable def wk_startOnLeft_h_orc : pC := px_orc [(158, fun a h => match a with
    | [.inr (.inl v0), .inl v1] => wu_at v0 v1 h
    | _ => none), (31, fun a h => match a with
    | [.inr (.inl 3), .inl v1, .inl v2] => hs_isUnsaidOf v1 v2 h
    | _ => none)]
theorem wk_startOnLeft_h_orc_ok {d : Nat} : px_Or (d + 2) (wk_startOnLeft_h_orc) := px_orc_ok (by
  refine px_o1 (fun a h q e => by
    dsimp only at e
    split at e
    · exact wu_at_ok (d := d + 1) e
    · cases e) ?_
  refine px_o1 (fun a h q e => by
    dsimp only at e
    split at e
    · exact hs_isUnsaidOf_ok (d := d + 0) e
    · cases e) ?_
  exact px_o0)
set_option maxRecDepth 200000 in
theorem wk_startOnLeft_h_114_ok {d : Nat} {r26 : Int32 → pH → pR} (hr26 : ∀ (x2 : Int32) (h : pH) (q : Int32 × pH), r26 x2 h = some q → px_G (d + 2 + 1) (pX_RX9, prog_11_method_3_code, 4, none) 26 [some (.inr (.inl 33)), none, some (.inl x2), none] [] h q) : ∀ (x2 : Int32) (s0 : Int32) (h : pH) (q : Int32 × pH), wk_startOnLeft_h_114 r26 x2 s0 h = some q → px_G (d + 2 + 1) (pX_RX9, prog_11_method_3_code, 4, none) 114 [some (.inr (.inl 33)), none, some (.inl x2), none] [.inl s0, .inr (.inl 33)] h q := by
  intro x2 s0 h q e
  exact px_blk_ok (d := d + 2) (M := (pX_RX9, prog_11_method_3_code, 4, none)) (C := wk_startOnLeft_h_orc) (code := wk_startOnLeft_h_code) (ld := [26]) (kl := [(26, fun ls st h => px_if (px_fit [43, 0, 1, 0] ls && px_fits [] st) (r26 (px_gi ls 2) h))]) (wk_startOnLeft_h_orc_ok) pX_ok_RX9 wk_startOnLeft_h_code_ok (px_k1 (px_ko (ts := [43, 0, 1, 0]) (ss := []) fun ls st h q e => hr26 _ _ _ e) px_k0) 70 114 _ _ h q e
set_option maxRecDepth 200000 in
theorem wk_startOnLeft_h_83_ok {d : Nat} {r26 : Int32 → pH → pR} (hr26 : ∀ (x2 : Int32) (h : pH) (q : Int32 × pH), r26 x2 h = some q → px_G (d + 2 + 1) (pX_RX9, prog_11_method_3_code, 4, none) 26 [some (.inr (.inl 33)), none, some (.inl x2), none] [] h q) : ∀ (x2 : Int32) (x3 : Int32) (s0 : Int32) (s1 : Int32) (h : pH) (q : Int32 × pH), wk_startOnLeft_h_83 r26 x2 x3 s0 s1 h = some q → px_G (d + 2 + 1) (pX_RX9, prog_11_method_3_code, 4, none) 83 [some (.inr (.inl 33)), none, some (.inl x2), some (.inl x3)] [.inl s0, .inl s1, .inr (.inl 33)] h q := by
  intro x2 x3 s0 s1 h q e
  exact px_blk_ok (d := d + 2) (M := (pX_RX9, prog_11_method_3_code, 4, none)) (C := wk_startOnLeft_h_orc) (code := wk_startOnLeft_h_code) (ld := [114]) (kl := [(114, fun ls st h => px_if (px_fit [43, 0, 1, 0] ls && px_fits [1, 43] st) (wk_startOnLeft_h_114 r26 (px_gi ls 2) (px_si st 0) h))]) (wk_startOnLeft_h_orc_ok) pX_ok_RX9 wk_startOnLeft_h_code_ok (px_k1 (px_ko (ts := [43, 0, 1, 0]) (ss := [1, 43]) fun ls st h q e => wk_startOnLeft_h_114_ok hr26 _ _ _ _ e) px_k0) 70 83 _ _ h q e
set_option maxRecDepth 200000 in
theorem wk_startOnLeft_h_66_ok {d : Nat} {r26 : Int32 → pH → pR} (hr26 : ∀ (x2 : Int32) (h : pH) (q : Int32 × pH), r26 x2 h = some q → px_G (d + 2 + 1) (pX_RX9, prog_11_method_3_code, 4, none) 26 [some (.inr (.inl 33)), none, some (.inl x2), none] [] h q) : ∀ (x2 : Int32) (s0 : Int32) (h : pH) (q : Int32 × pH), wk_startOnLeft_h_66 r26 x2 s0 h = some q → px_G (d + 2 + 1) (pX_RX9, prog_11_method_3_code, 4, none) 66 [some (.inr (.inl 33)), none, some (.inl x2), none] [.inl s0] h q := by
  intro x2 s0 h q e
  exact px_blk_ok (d := d + 2) (M := (pX_RX9, prog_11_method_3_code, 4, none)) (C := wk_startOnLeft_h_orc) (code := wk_startOnLeft_h_code) (ld := [83]) (kl := [(83, fun ls st h => px_if (px_fit [43, 0, 1, 1] ls && px_fits [1, 1, 43] st) (wk_startOnLeft_h_83 r26 (px_gi ls 2) (px_gi ls 3) (px_si st 0) (px_si st 1) h))]) (wk_startOnLeft_h_orc_ok) pX_ok_RX9 wk_startOnLeft_h_code_ok (px_k1 (px_ko (ts := [43, 0, 1, 1]) (ss := [1, 1, 43]) fun ls st h q e => wk_startOnLeft_h_83_ok hr26 _ _ _ _ _ _ e) px_k0) 70 66 _ _ h q e
set_option maxRecDepth 200000 in
theorem wk_startOnLeft_h_65_ok {d : Nat} {r26 : Int32 → pH → pR} (hr26 : ∀ (x2 : Int32) (h : pH) (q : Int32 × pH), r26 x2 h = some q → px_G (d + 2 + 1) (pX_RX9, prog_11_method_3_code, 4, none) 26 [some (.inr (.inl 33)), none, some (.inl x2), none] [] h q) : ∀ (x2 : Int32) (h : pH) (q : Int32 × pH), wk_startOnLeft_h_65 r26 x2 h = some q → px_G (d + 2 + 1) (pX_RX9, prog_11_method_3_code, 4, none) 65 [some (.inr (.inl 33)), none, some (.inl x2), none] [] h q := by
  intro x2 h q e
  exact px_blk_ok (d := d + 2) (M := (pX_RX9, prog_11_method_3_code, 4, none)) (C := wk_startOnLeft_h_orc) (code := wk_startOnLeft_h_code) (ld := [66]) (kl := [(66, fun ls st h => px_if (px_fit [43, 0, 1, 0] ls && px_fits [1] st) (wk_startOnLeft_h_66 r26 (px_gi ls 2) (px_si st 0) h))]) (wk_startOnLeft_h_orc_ok) pX_ok_RX9 wk_startOnLeft_h_code_ok (px_k1 (px_ko (ts := [43, 0, 1, 0]) (ss := [1]) fun ls st h q e => wk_startOnLeft_h_66_ok hr26 _ _ _ _ e) px_k0) 70 65 _ _ h q e
set_option maxRecDepth 200000 in
theorem wk_startOnLeft_h_26_ok {d : Nat} : ∀ (n : Nat) (x2 : Int32) (h : pH) (q : Int32 × pH), wk_startOnLeft_h_26 n x2 h = some q → px_G (d + 2 + 1) (pX_RX9, prog_11_method_3_code, 4, none) 26 [some (.inr (.inl 33)), none, some (.inl x2), none] [] h q := by
  intro n
  induction n with
  | zero =>
    intro x2 h q e
    cases e
  | succ n ih =>
    intro x2 h q e
    exact px_blk_ok (d := d + 2) (M := (pX_RX9, prog_11_method_3_code, 4, none)) (C := wk_startOnLeft_h_orc) (code := wk_startOnLeft_h_code) (ld := [65, 66]) (kl := [(65, fun ls st h => px_if (px_fit [43, 0, 1, 0] ls && px_fits [] st) (wk_startOnLeft_h_65 (wk_startOnLeft_h_26 n) (px_gi ls 2) h)), (66, fun ls st h => px_if (px_fit [43, 0, 1, 0] ls && px_fits [1] st) (wk_startOnLeft_h_66 (wk_startOnLeft_h_26 n) (px_gi ls 2) (px_si st 0) h))]) (wk_startOnLeft_h_orc_ok) pX_ok_RX9 wk_startOnLeft_h_code_ok (px_k1 (px_ko (ts := [43, 0, 1, 0]) (ss := []) fun ls st h q e => wk_startOnLeft_h_65_ok ih _ _ _ e) (px_k1 (px_ko (ts := [43, 0, 1, 0]) (ss := [1]) fun ls st h q e => wk_startOnLeft_h_66_ok ih _ _ _ _ e) px_k0)) 70 26 _ _ h q e
set_option maxRecDepth 200000 in
theorem wk_startOnLeft_h_ok {d : Nat} {x1 : Int32} {h : pH} {q : Int32 × pH} (e : wk_startOnLeft_h x1 h = some q) : px_Con (d + 3) 101 [.inr (.inl 33), .inl x1] h q :=
  px_con (X := pX_RX9) (b := prog_11_method_3_code) (nL := 4) (rt := none) rfl rfl (Nat.le_of_ble_eq_true rfl) rfl (px_blk_ok (d := d + 2) (M := (pX_RX9, prog_11_method_3_code, 4, none)) (C := wk_startOnLeft_h_orc) (code := wk_startOnLeft_h_code) (ld := [26]) (kl := [(26, fun ls st h => px_if (px_fit [43, 0, 1, 0] ls && px_fits [] st) (wk_startOnLeft_h_26 px_F (px_gi ls 2) h))]) (wk_startOnLeft_h_orc_ok) pX_ok_RX9 wk_startOnLeft_h_code_ok (px_k1 (px_ko (ts := [43, 0, 1, 0]) (ss := []) fun ls st h q e => wk_startOnLeft_h_26_ok _ _ _ _ e) px_k0) 70 0 _ _ _ q e)
/-! WordsUnsaid$Walk.drop()I -/
noncomputable def wk_drop_h (h : pH) : pR :=
  if (h 33 9) = 0 then
    some (px_c 10, h)
  else
    let h1 := px_w h 33 9 ((h 33 9) - (px_c 1))
    px_bind (wu_at 35 (h1 33 9) h1) fun z2 h3 =>
    let h4 := px_w h3 33 11 ((h3 33 11) ||| ((px_c 1) <<< (z2 &&& 31)))
    some (z2, h4)
def wk_drop_h_code : pCode := [(0, .aload_n 0, 1), (1, .getfield 66, 3), (4, .ifCond .ne (6), 3), (7, .bipush (10), 2), (9, .ireturn, 1), (10, .aload_n 0, 1), (11, .dup, 1), (12, .getfield 66, 3), (15, .iconst 1, 1), (16, .isub, 1), (17, .putfield 66, 3), (20, .aload_n 0, 1), (21, .getfield 23, 3), (24, .aload_n 0, 1), (25, .getfield 66, 3), (28, .invokestatic 44, 3), (31, .istore_n 1, 1), (32, .aload_n 0, 1), (33, .dup, 1), (34, .getfield 69, 3), (37, .iconst 1, 1), (38, .iload_n 1, 1), (39, .ishl, 1), (40, .ior, 1), (41, .putfield 69, 3), (44, .iload_n 1, 1), (45, .ireturn, 1)]
set_option maxRecDepth 200000 in
theorem wk_drop_h_code_ok : px_code prog_11_method_6_code wk_drop_h_code = true := by decide +kernel
noncomputable def wk_drop_h_orc : pC := px_orc [(158, fun a h => match a with
    | [.inr (.inl v0), .inl v1] => wu_at v0 v1 h
    | _ => none)]
theorem wk_drop_h_orc_ok {d : Nat} : px_Or (d + 1) (wk_drop_h_orc) := px_orc_ok (by
  refine px_o1 (fun a h q e => by
    dsimp only at e
    split at e
    · exact wu_at_ok (d := d + 0) e
    · cases e) ?_
  exact px_o0)
set_option maxRecDepth 200000 in
theorem wk_drop_h_ok {d : Nat} {h : pH} {q : Int32 × pH} (e : wk_drop_h h = some q) : px_Con (d + 2) 104 [.inr (.inl 33)] h q :=
  px_con (X := pX_RX9) (b := prog_11_method_6_code) (nL := 2) (rt := (some .int)) rfl rfl (Nat.le_of_ble_eq_true rfl) rfl (px_blk_ok (d := d + 1) (M := (pX_RX9, prog_11_method_6_code, 2, (some .int))) (C := wk_drop_h_orc) (code := wk_drop_h_code) (ld := []) (kl := []) (wk_drop_h_orc_ok) pX_ok_RX9 wk_drop_h_code_ok (px_k0) 32 0 _ _ _ q e)
/-! WordsUnsaid$Walk.canReach()Z -/
noncomputable def wk_canReach_h_56 (s0 : Int32) (h : pH) : pR :=
  px_bz s0 h
noncomputable def wk_canReach_h_24 (s0 : Int32) (h : pH) : pR :=
  if (s0 + (((h 33 10) - (h 33 9)) * (h 33 12))) < (h 22 9) then
    wk_canReach_h_56 (px_c 0) h
  else
    wk_canReach_h_56 (px_c 1) h
noncomputable def wk_canReach_h (h : pH) : pR :=
  if (h 33 9) = 0 then
    wk_canReach_h_24 (px_c 0) h
  else
    px_bind (wu_at 38 ((h 33 9) - (px_c 1)) h) fun z1 h2 =>
    wk_canReach_h_24 z1 h2
def wk_canReach_h_code : pCode := [(0, .aload_n 0, 1), (1, .getfield 66, 3), (4, .ifCond .ne (7), 3), (7, .iconst 0, 1), (8, .goto (16), 3), (11, .aload_n 0, 1), (12, .getfield 32, 3), (15, .aload_n 0, 1), (16, .getfield 66, 3), (19, .iconst 1, 1), (20, .isub, 1), (21, .invokestatic 44, 3), (24, .istore_n 1, 1), (25, .iload_n 1, 1), (26, .aload_n 0, 1), (27, .getfield 62, 3), (30, .aload_n 0, 1), (31, .getfield 66, 3), (34, .isub, 1), (35, .aload_n 0, 1), (36, .getfield 72, 3), (39, .imul, 1), (40, .iadd, 1), (41, .aload_n 0, 1), (42, .getfield 15, 3), (45, .getfield 105, 3), (48, .if_icmp .lt (7), 3), (51, .iconst 1, 1), (52, .goto (4), 3), (55, .iconst 0, 1), (56, .ireturn, 1)]
set_option maxRecDepth 200000 in
theorem wk_canReach_h_code_ok : px_code prog_11_method_9_code wk_canReach_h_code = true := by decide +kernel
noncomputable def wk_canReach_h_orc : pC := px_orc [(158, fun a h => match a with
    | [.inr (.inl v0), .inl v1] => wu_at v0 v1 h
    | _ => none)]
theorem wk_canReach_h_orc_ok {d : Nat} : px_Or (d + 1) (wk_canReach_h_orc) := px_orc_ok (by
  refine px_o1 (fun a h q e => by
    dsimp only at e
    split at e
    · exact wu_at_ok (d := d + 0) e
    · cases e) ?_
  exact px_o0)
set_option maxRecDepth 200000 in
theorem wk_canReach_h_56_ok {d : Nat} : ∀ (s0 : Int32) (h : pH) (q : Int32 × pH), wk_canReach_h_56 s0 h = some q → px_G (d + 1 + 1) (pX_RX9, prog_11_method_9_code, 2, (some .boolean)) 56 [none, none] [.inl s0] h q := by
  intro s0 h q e
  exact px_blk_ok (d := d + 1) (M := (pX_RX9, prog_11_method_9_code, 2, (some .boolean))) (C := wk_canReach_h_orc) (code := wk_canReach_h_code) (ld := []) (kl := []) (wk_canReach_h_orc_ok) pX_ok_RX9 wk_canReach_h_code_ok (px_k0) 36 56 _ _ h q e
set_option maxRecDepth 200000 in
theorem wk_canReach_h_24_ok {d : Nat} : ∀ (s0 : Int32) (h : pH) (q : Int32 × pH), wk_canReach_h_24 s0 h = some q → px_G (d + 1 + 1) (pX_RX9, prog_11_method_9_code, 2, (some .boolean)) 24 [some (.inr (.inl 33)), none] [.inl s0] h q := by
  intro s0 h q e
  exact px_blk_ok (d := d + 1) (M := (pX_RX9, prog_11_method_9_code, 2, (some .boolean))) (C := wk_canReach_h_orc) (code := wk_canReach_h_code) (ld := [56]) (kl := [(56, fun ls st h => px_if (px_fit [0, 0] ls && px_fits [1] st) (wk_canReach_h_56 (px_si st 0) h))]) (wk_canReach_h_orc_ok) pX_ok_RX9 wk_canReach_h_code_ok (px_k1 (px_ko (ts := [0, 0]) (ss := [1]) fun ls st h q e => wk_canReach_h_56_ok _ _ _ e) px_k0) 36 24 _ _ h q e
set_option maxRecDepth 200000 in
theorem wk_canReach_h_ok {d : Nat} {h : pH} {q : Int32 × pH} (e : wk_canReach_h h = some q) : px_Con (d + 2) 107 [.inr (.inl 33)] h q :=
  px_con (X := pX_RX9) (b := prog_11_method_9_code) (nL := 2) (rt := (some .boolean)) rfl rfl (Nat.le_of_ble_eq_true rfl) rfl (px_blk_ok (d := d + 1) (M := (pX_RX9, prog_11_method_9_code, 2, (some .boolean))) (C := wk_canReach_h_orc) (code := wk_canReach_h_code) (ld := [24]) (kl := [(24, fun ls st h => px_if (px_fit [43, 0] ls && px_fits [1] st) (wk_canReach_h_24 (px_si st 0) h))]) (wk_canReach_h_orc_ok) pX_ok_RX9 wk_canReach_h_code_ok (px_k1 (px_ko (ts := [43, 0]) (ss := [1]) fun ls st h q e => wk_canReach_h_24_ok _ _ _ e) px_k0) 36 0 _ _ _ q e)
/-! WordsUnsaid$Walk.add(I)V -/
noncomputable def wk_add_h_213 (x3 : Int32) (x4 : Int32) (h : pH) : pR :=
  px_bind (wu_put 37 ((h 33 9) - (px_c 1)) x3 h) fun _ h2 =>
  px_bind (wu_put 39 ((h2 33 9) - (px_c 1)) x4 h2) fun _ h4 =>
  some (0, h4)
noncomputable def wk_add_h_206 (x3 : Int32) (x7 : Int32) (s0 : Int32) (h : pH) : pR :=
  let y3_1 := x3 + x7
  wk_add_h_213 y3_1 s0 h
noncomputable def wk_add_h_99 (x1 : Int32) (x3 : Int32) (x4 : Int32) (x5 : Int32) (s0 : Int32) (s1 : Int32) (s2 : Int32) (h : pH) : pR :=
  px_bind (wu_put 38 s2 (s1 + s0) h) fun _ h2 =>
  px_bind (wu_put 35 (h2 33 9) x1 h2) fun _ h4 =>
  let h5 := px_w h4 33 9 ((h4 33 9) + (px_c 1))
  let h6 := px_w h5 33 11 ((h5 33 11) &&& (((px_c 1) <<< (x1 &&& 31)) ^^^ (px_c (-1))))
  if x4 = (px_c (-1)) then
    if (h6 22 9) ≤ x3 then
      wk_add_h_213 x3 x4 h6
    else
      px_bind (wk_canReach_h h6) fun z7 h8 =>
      if z7 = 0 then
        wk_add_h_213 x3 x4 h8
      else
        let y6_9 := px_min x5 ((h8 22 9) - x3)
        px_bind (cr_kept x1 x5 x3 y6_9 h8) fun z10 h11 =>
        if y6_9 ≤ z10 then
          wk_add_h_206 x3 z10 (px_c (-1)) h11
        else
          wk_add_h_206 x3 z10 x1 h11
  else
    wk_add_h_213 x3 x4 h6
noncomputable def wk_add_h_56 (x1 : Int32) (x2 : Int32) (x3 : Int32) (s0 : Int32) (h : pH) : pR :=
  px_bind (wu_at 34 x1 h) fun z1 h2 =>
  if x2 = 0 then
    px_bind (wu_at 38 ((h2 33 9) - (px_c 1)) h2) fun z3 h4 =>
    wk_add_h_99 x1 x3 s0 z1 z3 z1 (h2 33 9) h4
  else
    wk_add_h_99 x1 x3 s0 z1 (px_c 0) z1 (h2 33 9) h2
noncomputable def wk_add_h_34 (x1 : Int32) (x2 : Int32) (s0 : Int32) (h : pH) : pR :=
  if x2 = 0 then
    px_bind (wu_at 39 ((h 33 9) - (px_c 1)) h) fun z1 h2 =>
    wk_add_h_56 x1 x2 s0 z1 h2
  else
    wk_add_h_56 x1 x2 s0 (px_c (-1)) h
noncomputable def wk_add_h_12 (x1 : Int32) (s0 : Int32) (h : pH) : pR :=
  if s0 = 0 then
    px_bind (wu_at 37 ((h 33 9) - (px_c 1)) h) fun z1 h2 =>
    wk_add_h_34 x1 s0 z1 h2
  else
    wk_add_h_34 x1 s0 (px_c 0) h
noncomputable def wk_add_h (x1 : Int32) (h : pH) : pR :=
  if (h 33 9) = 0 then
    wk_add_h_12 x1 (px_c 1) h
  else
    wk_add_h_12 x1 (px_c 0) h
def wk_add_h_code : pCode := [(0, .aload_n 0, 1), (1, .getfield 66, 3), (4, .ifCond .ne (7), 3), (7, .iconst 1, 1), (8, .goto (4), 3), (11, .iconst 0, 1), (12, .istore_n 2, 1), (13, .iload_n 2, 1), (14, .ifCond .eq (7), 3), (17, .iconst 0, 1), (18, .goto (16), 3), (21, .aload_n 0, 1), (22, .getfield 29, 3), (25, .aload_n 0, 1), (26, .getfield 66, 3), (29, .iconst 1, 1), (30, .isub, 1), (31, .invokestatic 44, 3), (34, .istore_n 3, 1), (35, .iload_n 2, 1), (36, .ifCond .eq (7), 3), (39, .iconst (-1), 1), (40, .goto (16), 3), (43, .aload_n 0, 1), (44, .getfield 35, 3), (47, .aload_n 0, 1), (48, .getfield 66, 3), (51, .iconst 1, 1), (52, .isub, 1), (53, .invokestatic 44, 3), (56, .istore 4, 2), (58, .aload_n 0, 1), (59, .getfield 19, 3), (62, .iload_n 1, 1), (63, .invokestatic 44, 3), (66, .istore 5, 2), (68, .aload_n 0, 1), (69, .getfield 32, 3), (72, .aload_n 0, 1), (73, .getfield 66, 3), (76, .iload 5, 2), (78, .iload_n 2, 1), (79, .ifCond .eq (7), 3), (82, .iconst 0, 1), (83, .goto (16), 3), (86, .aload_n 0, 1), (87, .getfield 32, 3), (90, .aload_n 0, 1), (91, .getfield 66, 3), (94, .iconst 1, 1), (95, .isub, 1), (96, .invokestatic 44, 3), (99, .iadd, 1), (100, .invokestatic 48, 3), (103, .aload_n 0, 1), (104, .getfield 23, 3), (107, .aload_n 0, 1), (108, .getfield 66, 3), (111, .iload_n 1, 1), (112, .invokestatic 48, 3), (115, .aload_n 0, 1), (116, .dup, 1), (117, .getfield 66, 3), (120, .iconst 1, 1), (121, .iadd, 1), (122, .putfield 66, 3), (125, .aload_n 0, 1), (126, .dup, 1), (127, .getfield 69, 3), (130, .iconst 1, 1), (131, .iload_n 1, 1), (132, .ishl, 1), (133, .iconst (-1), 1), (134, .ixor, 1), (135, .iand, 1), (136, .putfield 69, 3), (139, .iload 4, 2), (141, .iconst (-1), 1), (142, .if_icmp .ne (71), 3), (145, .iload_n 3, 1), (146, .aload_n 0, 1), (147, .getfield 15, 3), (150, .getfield 105, 3), (153, .if_icmp .ge (60), 3), (156, .aload_n 0, 1), (157, .invokevirtual 87, 3), (160, .ifCond .eq (53), 3), (163, .iload 5, 2), (165, .aload_n 0, 1), (166, .getfield 15, 3), (169, .getfield 105, 3), (172, .iload_n 3, 1), (173, .isub, 1), (174, .invokestatic 56, 3), (177, .istore 6, 2), (179, .aload_n 0, 1), (180, .getfield 15, 3), (183, .iload_n 1, 1), (184, .iload 5, 2), (186, .iload_n 3, 1), (187, .iload 6, 2), (189, .invokevirtual 107, 3), (192, .istore 7, 2), (194, .iload 7, 2), (196, .iload 6, 2), (198, .if_icmp .ge (7), 3), (201, .iload_n 1, 1), (202, .goto (4), 3), (205, .iconst (-1), 1), (206, .istore 4, 2), (208, .iload_n 3, 1), (209, .iload 7, 2), (211, .iadd, 1), (212, .istore_n 3, 1), (213, .aload_n 0, 1), (214, .getfield 29, 3), (217, .aload_n 0, 1), (218, .getfield 66, 3), (221, .iconst 1, 1), (222, .isub, 1), (223, .iload_n 3, 1), (224, .invokestatic 48, 3), (227, .aload_n 0, 1), (228, .getfield 35, 3), (231, .aload_n 0, 1), (232, .getfield 66, 3), (235, .iconst 1, 1), (236, .isub, 1), (237, .iload 4, 2), (239, .invokestatic 48, 3), (242, .return_, 1)]
set_option maxRecDepth 200000 in
theorem wk_add_h_code_ok : px_code prog_11_method_8_code wk_add_h_code = true := by decide +kernel
noncomputable def wk_add_h_orc : pC := px_orc [(159, fun a h => match a with
    | [.inr (.inl v0), .inl v1, .inl v2] => wu_put v0 v1 v2 h
    | _ => none), (107, fun a h => match a with
    | [.inr (.inl 33)] => wk_canReach_h h
    | _ => none), (12, fun a h => match a with
    | [.inr (.inl 22), .inl v1, .inl v2, .inl v3, .inl v4] => cr_kept v1 v2 v3 v4 h
    | _ => none), (158, fun a h => match a with
    | [.inr (.inl v0), .inl v1] => wu_at v0 v1 h
    | _ => none)]
theorem wk_add_h_orc_ok {d : Nat} : px_Or (d + 3) (wk_add_h_orc) := px_orc_ok (by
  refine px_o1 (fun a h q e => by
    dsimp only at e
    split at e
    · exact wu_put_ok (d := d + 2) e
    · cases e) ?_
  refine px_o1 (fun a h q e => by
    dsimp only at e
    split at e
    · exact wk_canReach_h_ok (d := d + 1) e
    · cases e) ?_
  refine px_o1 (fun a h q e => by
    dsimp only at e
    split at e
    · exact cr_kept_ok (d := d + 0) e
    · cases e) ?_
  refine px_o1 (fun a h q e => by
    dsimp only at e
    split at e
    · exact wu_at_ok (d := d + 2) e
    · cases e) ?_
  exact px_o0)
set_option maxRecDepth 200000 in
theorem wk_add_h_213_ok {d : Nat} : ∀ (x3 : Int32) (x4 : Int32) (h : pH) (q : Int32 × pH), wk_add_h_213 x3 x4 h = some q → px_G (d + 3 + 1) (pX_RX9, prog_11_method_8_code, 8, none) 213 [some (.inr (.inl 33)), none, none, some (.inl x3), some (.inl x4), none, none, none] [] h q := by
  intro x3 x4 h q e
  exact px_blk_ok (d := d + 3) (M := (pX_RX9, prog_11_method_8_code, 8, none)) (C := wk_add_h_orc) (code := wk_add_h_code) (ld := []) (kl := []) (wk_add_h_orc_ok) pX_ok_RX9 wk_add_h_code_ok (px_k0) 136 213 _ _ h q e
set_option maxRecDepth 200000 in
theorem wk_add_h_206_ok {d : Nat} : ∀ (x3 : Int32) (x7 : Int32) (s0 : Int32) (h : pH) (q : Int32 × pH), wk_add_h_206 x3 x7 s0 h = some q → px_G (d + 3 + 1) (pX_RX9, prog_11_method_8_code, 8, none) 206 [some (.inr (.inl 33)), none, none, some (.inl x3), none, none, none, some (.inl x7)] [.inl s0] h q := by
  intro x3 x7 s0 h q e
  exact px_blk_ok (d := d + 3) (M := (pX_RX9, prog_11_method_8_code, 8, none)) (C := wk_add_h_orc) (code := wk_add_h_code) (ld := [213]) (kl := [(213, fun ls st h => px_if (px_fit [43, 0, 0, 1, 1, 0, 0, 0] ls && px_fits [] st) (wk_add_h_213 (px_gi ls 3) (px_gi ls 4) h))]) (wk_add_h_orc_ok) pX_ok_RX9 wk_add_h_code_ok (px_k1 (px_ko (ts := [43, 0, 0, 1, 1, 0, 0, 0]) (ss := []) fun ls st h q e => wk_add_h_213_ok _ _ _ _ e) px_k0) 136 206 _ _ h q e
set_option maxRecDepth 200000 in
theorem wk_add_h_99_ok {d : Nat} : ∀ (x1 : Int32) (x3 : Int32) (x4 : Int32) (x5 : Int32) (s0 : Int32) (s1 : Int32) (s2 : Int32) (h : pH) (q : Int32 × pH), wk_add_h_99 x1 x3 x4 x5 s0 s1 s2 h = some q → px_G (d + 3 + 1) (pX_RX9, prog_11_method_8_code, 8, none) 99 [some (.inr (.inl 33)), some (.inl x1), none, some (.inl x3), some (.inl x4), some (.inl x5), none, none] [.inl s0, .inl s1, .inl s2, .inr (.inl 38)] h q := by
  intro x1 x3 x4 x5 s0 s1 s2 h q e
  exact px_blk_ok (d := d + 3) (M := (pX_RX9, prog_11_method_8_code, 8, none)) (C := wk_add_h_orc) (code := wk_add_h_code) (ld := [206, 213]) (kl := [(206, fun ls st h => px_if (px_fit [43, 0, 0, 1, 0, 0, 0, 1] ls && px_fits [1] st) (wk_add_h_206 (px_gi ls 3) (px_gi ls 7) (px_si st 0) h)), (213, fun ls st h => px_if (px_fit [43, 0, 0, 1, 1, 0, 0, 0] ls && px_fits [] st) (wk_add_h_213 (px_gi ls 3) (px_gi ls 4) h))]) (wk_add_h_orc_ok) pX_ok_RX9 wk_add_h_code_ok (px_k1 (px_ko (ts := [43, 0, 0, 1, 0, 0, 0, 1]) (ss := [1]) fun ls st h q e => wk_add_h_206_ok _ _ _ _ _ e) (px_k1 (px_ko (ts := [43, 0, 0, 1, 1, 0, 0, 0]) (ss := []) fun ls st h q e => wk_add_h_213_ok _ _ _ _ e) px_k0)) 136 99 _ _ h q e
set_option maxRecDepth 200000 in
theorem wk_add_h_56_ok {d : Nat} : ∀ (x1 : Int32) (x2 : Int32) (x3 : Int32) (s0 : Int32) (h : pH) (q : Int32 × pH), wk_add_h_56 x1 x2 x3 s0 h = some q → px_G (d + 3 + 1) (pX_RX9, prog_11_method_8_code, 8, none) 56 [some (.inr (.inl 33)), some (.inl x1), some (.inl x2), some (.inl x3), none, none, none, none] [.inl s0] h q := by
  intro x1 x2 x3 s0 h q e
  exact px_blk_ok (d := d + 3) (M := (pX_RX9, prog_11_method_8_code, 8, none)) (C := wk_add_h_orc) (code := wk_add_h_code) (ld := [99]) (kl := [(99, fun ls st h => px_if (px_fit [43, 1, 0, 1, 1, 1, 0, 0] ls && px_fits [1, 1, 1, 48] st) (wk_add_h_99 (px_gi ls 1) (px_gi ls 3) (px_gi ls 4) (px_gi ls 5) (px_si st 0) (px_si st 1) (px_si st 2) h))]) (wk_add_h_orc_ok) pX_ok_RX9 wk_add_h_code_ok (px_k1 (px_ko (ts := [43, 1, 0, 1, 1, 1, 0, 0]) (ss := [1, 1, 1, 48]) fun ls st h q e => wk_add_h_99_ok _ _ _ _ _ _ _ _ _ e) px_k0) 136 56 _ _ h q e
set_option maxRecDepth 200000 in
theorem wk_add_h_34_ok {d : Nat} : ∀ (x1 : Int32) (x2 : Int32) (s0 : Int32) (h : pH) (q : Int32 × pH), wk_add_h_34 x1 x2 s0 h = some q → px_G (d + 3 + 1) (pX_RX9, prog_11_method_8_code, 8, none) 34 [some (.inr (.inl 33)), some (.inl x1), some (.inl x2), none, none, none, none, none] [.inl s0] h q := by
  intro x1 x2 s0 h q e
  exact px_blk_ok (d := d + 3) (M := (pX_RX9, prog_11_method_8_code, 8, none)) (C := wk_add_h_orc) (code := wk_add_h_code) (ld := [56]) (kl := [(56, fun ls st h => px_if (px_fit [43, 1, 1, 1, 0, 0, 0, 0] ls && px_fits [1] st) (wk_add_h_56 (px_gi ls 1) (px_gi ls 2) (px_gi ls 3) (px_si st 0) h))]) (wk_add_h_orc_ok) pX_ok_RX9 wk_add_h_code_ok (px_k1 (px_ko (ts := [43, 1, 1, 1, 0, 0, 0, 0]) (ss := [1]) fun ls st h q e => wk_add_h_56_ok _ _ _ _ _ _ e) px_k0) 136 34 _ _ h q e
set_option maxRecDepth 200000 in
theorem wk_add_h_12_ok {d : Nat} : ∀ (x1 : Int32) (s0 : Int32) (h : pH) (q : Int32 × pH), wk_add_h_12 x1 s0 h = some q → px_G (d + 3 + 1) (pX_RX9, prog_11_method_8_code, 8, none) 12 [some (.inr (.inl 33)), some (.inl x1), none, none, none, none, none, none] [.inl s0] h q := by
  intro x1 s0 h q e
  exact px_blk_ok (d := d + 3) (M := (pX_RX9, prog_11_method_8_code, 8, none)) (C := wk_add_h_orc) (code := wk_add_h_code) (ld := [34]) (kl := [(34, fun ls st h => px_if (px_fit [43, 1, 1, 0, 0, 0, 0, 0] ls && px_fits [1] st) (wk_add_h_34 (px_gi ls 1) (px_gi ls 2) (px_si st 0) h))]) (wk_add_h_orc_ok) pX_ok_RX9 wk_add_h_code_ok (px_k1 (px_ko (ts := [43, 1, 1, 0, 0, 0, 0, 0]) (ss := [1]) fun ls st h q e => wk_add_h_34_ok _ _ _ _ _ e) px_k0) 136 12 _ _ h q e
set_option maxRecDepth 200000 in
theorem wk_add_h_ok {d : Nat} {x1 : Int32} {h : pH} {q : Int32 × pH} (e : wk_add_h x1 h = some q) : px_Con (d + 4) 106 [.inr (.inl 33), .inl x1] h q :=
  px_con (X := pX_RX9) (b := prog_11_method_8_code) (nL := 8) (rt := none) rfl rfl (Nat.le_of_ble_eq_true rfl) rfl (px_blk_ok (d := d + 3) (M := (pX_RX9, prog_11_method_8_code, 8, none)) (C := wk_add_h_orc) (code := wk_add_h_code) (ld := [12]) (kl := [(12, fun ls st h => px_if (px_fit [43, 1, 0, 0, 0, 0, 0, 0] ls && px_fits [1] st) (wk_add_h_12 (px_gi ls 1) (px_si st 0) h))]) (wk_add_h_orc_ok) pX_ok_RX9 wk_add_h_code_ok (px_k1 (px_ko (ts := [43, 1, 0, 0, 0, 0, 0, 0]) (ss := [1]) fun ls st h q e => wk_add_h_12_ok _ _ _ _ e) px_k0) 136 0 _ _ _ q e)
/-! WordsUnsaid$Walk.usableFrom(I)I -/
noncomputable def wk_usableFrom_h_2 : Nat → Int32 → pH → pR
  | 0, _, _ => none
  | n + 1, x2, h =>
    if (px_c 10) ≤ x2 then
      some (px_c (-1), h)
    else
      px_bind (wu_has (h 33 11) x2 h) fun z1 h2 =>
      if z1 = 0 then
        wk_usableFrom_h_2 n (x2 + px_c 1) h2
      else
        some (x2, h2)
noncomputable def wk_usableFrom_h (x1 : Int32) (h : pH) : pR :=
  wk_usableFrom_h_2 px_F x1 h
def wk_usableFrom_h_code : pCode := [(0, .iload_n 1, 1), (1, .istore_n 2, 1), (2, .iload_n 2, 1), (3, .bipush (10), 2), (5, .if_icmp .ge (22), 3), (8, .aload_n 0, 1), (9, .getfield 69, 3), (12, .iload_n 2, 1), (13, .invokestatic 102, 3), (16, .ifCond .eq (5), 3), (19, .iload_n 2, 1), (20, .ireturn, 1), (21, .iinc 2 (1), 3), (24, .goto (-22), 3), (27, .iconst (-1), 1), (28, .ireturn, 1)]
set_option maxRecDepth 200000 in
theorem wk_usableFrom_h_code_ok : px_code prog_11_method_7_code wk_usableFrom_h_code = true := by decide +kernel
noncomputable def wk_usableFrom_h_orc : pC := px_orc [(160, fun a h => match a with
    | [.inl v0, .inl v1] => wu_has v0 v1 h
    | _ => none)]
theorem wk_usableFrom_h_orc_ok {d : Nat} : px_Or (d + 1) (wk_usableFrom_h_orc) := px_orc_ok (by
  refine px_o1 (fun a h q e => by
    dsimp only at e
    split at e
    · exact wu_has_ok (d := d + 0) e
    · cases e) ?_
  exact px_o0)
set_option maxRecDepth 200000 in
theorem wk_usableFrom_h_2_ok {d : Nat} : ∀ (n : Nat) (x2 : Int32) (h : pH) (q : Int32 × pH), wk_usableFrom_h_2 n x2 h = some q → px_G (d + 1 + 1) (pX_RX9, prog_11_method_7_code, 3, (some .int)) 2 [some (.inr (.inl 33)), none, some (.inl x2)] [] h q := by
  intro n
  induction n with
  | zero =>
    intro x2 h q e
    cases e
  | succ n ih =>
    intro x2 h q e
    exact px_blk_ok (d := d + 1) (M := (pX_RX9, prog_11_method_7_code, 3, (some .int))) (C := wk_usableFrom_h_orc) (code := wk_usableFrom_h_code) (ld := [2]) (kl := [(2, fun ls st h => px_if (px_fit [43, 0, 1] ls && px_fits [] st) (wk_usableFrom_h_2 n (px_gi ls 2) h))]) (wk_usableFrom_h_orc_ok) pX_ok_RX9 wk_usableFrom_h_code_ok (px_k1 (px_ko (ts := [43, 0, 1]) (ss := []) fun ls st h q e => ih _ _ _ e) px_k0) 21 2 _ _ h q e
set_option maxRecDepth 200000 in
theorem wk_usableFrom_h_ok {d : Nat} {x1 : Int32} {h : pH} {q : Int32 × pH} (e : wk_usableFrom_h x1 h = some q) : px_Con (d + 2) 105 [.inr (.inl 33), .inl x1] h q :=
  px_con (X := pX_RX9) (b := prog_11_method_7_code) (nL := 3) (rt := (some .int)) rfl rfl (Nat.le_of_ble_eq_true rfl) rfl (px_blk_ok (d := d + 1) (M := (pX_RX9, prog_11_method_7_code, 3, (some .int))) (C := wk_usableFrom_h_orc) (code := wk_usableFrom_h_code) (ld := [2]) (kl := [(2, fun ls st h => px_if (px_fit [43, 0, 1] ls && px_fits [] st) (wk_usableFrom_h_2 px_F (px_gi ls 2) h))]) (wk_usableFrom_h_orc_ok) pX_ok_RX9 wk_usableFrom_h_code_ok (px_k1 (px_ko (ts := [43, 0, 1]) (ss := []) fun ls st h q e => wk_usableFrom_h_2_ok _ _ _ _ e) px_k0) 21 0 _ _ _ q e)
/-! WordsUnsaid$Walk.next(Z)Z -/
noncomputable def wk_next_h_60 (r35 : Int32 → Int32 → pH → pR) (x3 : Int32) (s0 : Int32) (h : pH) : pR :=
  if s0 = (px_c (-1)) then
    px_bind (wk_drop_h h) fun z1 h2 =>
    let y2_3 := z1 + (px_c 1)
    r35 y2_3 (x3 + px_c 1) h2
  else
    px_bind (wk_add_h s0 h) fun _ h5 =>
    px_bz (px_c 1) h5
noncomputable def wk_next_h_35 : Nat → Int32 → Int32 → pH → pR
  | 0, _, _, _ => none
  | n + 1, x2, x3, h =>
    if (px_c 4) < x3 then
      px_bz (px_c 0) h
    else
      if (h 33 10) ≤ (h 33 9) then
        wk_next_h_60 (wk_next_h_35 n) x3 (px_c (-1)) h
      else
        px_bind (wk_usableFrom_h x2 h) fun z1 h2 =>
        wk_next_h_60 (wk_next_h_35 n) x3 z1 h2
noncomputable def wk_next_h_32 (s0 : Int32) (h : pH) : pR :=
  wk_next_h_35 px_F s0 (px_c 0) h
noncomputable def wk_next_h_26 (h : pH) : pR :=
  px_bind (wk_drop_h h) fun z1 h2 =>
  wk_next_h_32 (z1 + (px_c 1)) h2
noncomputable def wk_next_h (x1 : Int32) (h : pH) : pR :=
  if x1 = 0 then
    wk_next_h_26 h
  else
    if (h 33 10) ≤ (h 33 9) then
      wk_next_h_26 h
    else
      px_bind (wk_canReach_h h) fun z1 h2 =>
      if z1 = 0 then
        wk_next_h_26 h2
      else
        wk_next_h_32 (px_c 0) h2
def wk_next_h_code : pCode := [(0, .iload_n 1, 1), (1, .ifCond .eq (25), 3), (4, .aload_n 0, 1), (5, .getfield 66, 3), (8, .aload_n 0, 1), (9, .getfield 62, 3), (12, .if_icmp .ge (14), 3), (15, .aload_n 0, 1), (16, .invokevirtual 87, 3), (19, .ifCond .eq (7), 3), (22, .iconst 0, 1), (23, .goto (9), 3), (26, .aload_n 0, 1), (27, .invokevirtual 91, 3), (30, .iconst 1, 1), (31, .iadd, 1), (32, .istore_n 2, 1), (33, .iconst 0, 1), (34, .istore_n 3, 1), (35, .iload_n 3, 1), (36, .iconst 4, 1), (37, .if_icmp .gt (52), 3), (40, .aload_n 0, 1), (41, .getfield 66, 3), (44, .aload_n 0, 1), (45, .getfield 62, 3), (48, .if_icmp .ge (11), 3), (51, .aload_n 0, 1), (52, .iload_n 2, 1), (53, .invokevirtual 95, 3), (56, .goto (4), 3), (59, .iconst (-1), 1), (60, .istore 4, 2), (62, .iload 4, 2), (64, .iconst (-1), 1), (65, .if_icmp .eq (11), 3), (68, .aload_n 0, 1), (69, .iload 4, 2), (71, .invokevirtual 99, 3), (74, .iconst 1, 1), (75, .ireturn, 1), (76, .aload_n 0, 1), (77, .invokevirtual 91, 3), (80, .iconst 1, 1), (81, .iadd, 1), (82, .istore_n 2, 1), (83, .iinc 3 (1), 3), (86, .goto (-51), 3), (89, .iconst 0, 1), (90, .ireturn, 1)]
set_option maxRecDepth 200000 in
theorem wk_next_h_code_ok : px_code prog_11_method_5_code wk_next_h_code = true := by decide +kernel
noncomputable def wk_next_h_orc : pC := px_orc [(104, fun a h => match a with
    | [.inr (.inl 33)] => wk_drop_h h
    | _ => none), (106, fun a h => match a with
    | [.inr (.inl 33), .inl v1] => wk_add_h v1 h
    | _ => none), (105, fun a h => match a with
    | [.inr (.inl 33), .inl v1] => wk_usableFrom_h v1 h
    | _ => none), (107, fun a h => match a with
    | [.inr (.inl 33)] => wk_canReach_h h
    | _ => none)]
theorem wk_next_h_orc_ok {d : Nat} : px_Or (d + 4) (wk_next_h_orc) := px_orc_ok (by
  refine px_o1 (fun a h q e => by
    dsimp only at e
    split at e
    · exact wk_drop_h_ok (d := d + 2) e
    · cases e) ?_
  refine px_o1 (fun a h q e => by
    dsimp only at e
    split at e
    · exact wk_add_h_ok (d := d + 0) e
    · cases e) ?_
  refine px_o1 (fun a h q e => by
    dsimp only at e
    split at e
    · exact wk_usableFrom_h_ok (d := d + 2) e
    · cases e) ?_
  refine px_o1 (fun a h q e => by
    dsimp only at e
    split at e
    · exact wk_canReach_h_ok (d := d + 2) e
    · cases e) ?_
  exact px_o0)
set_option maxRecDepth 200000 in
theorem wk_next_h_60_ok {d : Nat} {r35 : Int32 → Int32 → pH → pR} (hr35 : ∀ (x2 : Int32) (x3 : Int32) (h : pH) (q : Int32 × pH), r35 x2 x3 h = some q → px_G (d + 4 + 1) (pX_RX9, prog_11_method_5_code, 5, (some .boolean)) 35 [some (.inr (.inl 33)), none, some (.inl x2), some (.inl x3), none] [] h q) : ∀ (x3 : Int32) (s0 : Int32) (h : pH) (q : Int32 × pH), wk_next_h_60 r35 x3 s0 h = some q → px_G (d + 4 + 1) (pX_RX9, prog_11_method_5_code, 5, (some .boolean)) 60 [some (.inr (.inl 33)), none, none, some (.inl x3), none] [.inl s0] h q := by
  intro x3 s0 h q e
  exact px_blk_ok (d := d + 4) (M := (pX_RX9, prog_11_method_5_code, 5, (some .boolean))) (C := wk_next_h_orc) (code := wk_next_h_code) (ld := [35]) (kl := [(35, fun ls st h => px_if (px_fit [43, 0, 1, 1, 0] ls && px_fits [] st) (r35 (px_gi ls 2) (px_gi ls 3) h))]) (wk_next_h_orc_ok) pX_ok_RX9 wk_next_h_code_ok (px_k1 (px_ko (ts := [43, 0, 1, 1, 0]) (ss := []) fun ls st h q e => hr35 _ _ _ _ e) px_k0) 55 60 _ _ h q e
set_option maxRecDepth 200000 in
theorem wk_next_h_35_ok {d : Nat} : ∀ (n : Nat) (x2 : Int32) (x3 : Int32) (h : pH) (q : Int32 × pH), wk_next_h_35 n x2 x3 h = some q → px_G (d + 4 + 1) (pX_RX9, prog_11_method_5_code, 5, (some .boolean)) 35 [some (.inr (.inl 33)), none, some (.inl x2), some (.inl x3), none] [] h q := by
  intro n
  induction n with
  | zero =>
    intro x2 x3 h q e
    cases e
  | succ n ih =>
    intro x2 x3 h q e
    exact px_blk_ok (d := d + 4) (M := (pX_RX9, prog_11_method_5_code, 5, (some .boolean))) (C := wk_next_h_orc) (code := wk_next_h_code) (ld := [60]) (kl := [(60, fun ls st h => px_if (px_fit [43, 0, 0, 1, 0] ls && px_fits [1] st) (wk_next_h_60 (wk_next_h_35 n) (px_gi ls 3) (px_si st 0) h))]) (wk_next_h_orc_ok) pX_ok_RX9 wk_next_h_code_ok (px_k1 (px_ko (ts := [43, 0, 0, 1, 0]) (ss := [1]) fun ls st h q e => wk_next_h_60_ok ih _ _ _ _ e) px_k0) 55 35 _ _ h q e
set_option maxRecDepth 200000 in
theorem wk_next_h_32_ok {d : Nat} : ∀ (s0 : Int32) (h : pH) (q : Int32 × pH), wk_next_h_32 s0 h = some q → px_G (d + 4 + 1) (pX_RX9, prog_11_method_5_code, 5, (some .boolean)) 32 [some (.inr (.inl 33)), none, none, none, none] [.inl s0] h q := by
  intro s0 h q e
  exact px_blk_ok (d := d + 4) (M := (pX_RX9, prog_11_method_5_code, 5, (some .boolean))) (C := wk_next_h_orc) (code := wk_next_h_code) (ld := [35]) (kl := [(35, fun ls st h => px_if (px_fit [43, 0, 1, 1, 0] ls && px_fits [] st) (wk_next_h_35 px_F (px_gi ls 2) (px_gi ls 3) h))]) (wk_next_h_orc_ok) pX_ok_RX9 wk_next_h_code_ok (px_k1 (px_ko (ts := [43, 0, 1, 1, 0]) (ss := []) fun ls st h q e => wk_next_h_35_ok _ _ _ _ _ e) px_k0) 55 32 _ _ h q e
set_option maxRecDepth 200000 in
theorem wk_next_h_26_ok {d : Nat} : ∀ (h : pH) (q : Int32 × pH), wk_next_h_26 h = some q → px_G (d + 4 + 1) (pX_RX9, prog_11_method_5_code, 5, (some .boolean)) 26 [some (.inr (.inl 33)), none, none, none, none] [] h q := by
  intro h q e
  exact px_blk_ok (d := d + 4) (M := (pX_RX9, prog_11_method_5_code, 5, (some .boolean))) (C := wk_next_h_orc) (code := wk_next_h_code) (ld := [32]) (kl := [(32, fun ls st h => px_if (px_fit [43, 0, 0, 0, 0] ls && px_fits [1] st) (wk_next_h_32 (px_si st 0) h))]) (wk_next_h_orc_ok) pX_ok_RX9 wk_next_h_code_ok (px_k1 (px_ko (ts := [43, 0, 0, 0, 0]) (ss := [1]) fun ls st h q e => wk_next_h_32_ok _ _ _ e) px_k0) 55 26 _ _ h q e
set_option maxRecDepth 200000 in
theorem wk_next_h_ok {d : Nat} {x1 : Int32} {h : pH} {q : Int32 × pH} (e : wk_next_h x1 h = some q) : px_Con (d + 5) 103 [.inr (.inl 33), .inl x1] h q :=
  px_con (X := pX_RX9) (b := prog_11_method_5_code) (nL := 5) (rt := (some .boolean)) rfl rfl (Nat.le_of_ble_eq_true rfl) rfl (px_blk_ok (d := d + 4) (M := (pX_RX9, prog_11_method_5_code, 5, (some .boolean))) (C := wk_next_h_orc) (code := wk_next_h_code) (ld := [26, 32]) (kl := [(26, fun ls st h => px_if (px_fit [43, 0, 0, 0, 0] ls && px_fits [] st) (wk_next_h_26 h)), (32, fun ls st h => px_if (px_fit [43, 0, 0, 0, 0] ls && px_fits [1] st) (wk_next_h_32 (px_si st 0) h))]) (wk_next_h_orc_ok) pX_ok_RX9 wk_next_h_code_ok (px_k1 (px_ko (ts := [43, 0, 0, 0, 0]) (ss := []) fun ls st h q e => wk_next_h_26_ok _ _ e) (px_k1 (px_ko (ts := [43, 0, 0, 0, 0]) (ss := [1]) fun ls st h q e => wk_next_h_32_ok _ _ _ e) px_k0)) 55 0 _ _ _ q e)
/-! WordsUnsaid$Walk.saidThing()I -/
noncomputable def wk_saidThing_h (h : pH) : pR :=
  px_bind (wu_at 39 ((h 33 9) - (px_c 1)) h) fun z1 h2 =>
  some (z1, h2)
def wk_saidThing_h_code : pCode := [(0, .aload_n 0, 1), (1, .getfield 35, 3), (4, .aload_n 0, 1), (5, .getfield 66, 3), (8, .iconst 1, 1), (9, .isub, 1), (10, .invokestatic 44, 3), (13, .ireturn, 1)]
set_option maxRecDepth 200000 in
theorem wk_saidThing_h_code_ok : px_code prog_11_method_11_code wk_saidThing_h_code = true := by decide +kernel
noncomputable def wk_saidThing_h_orc : pC := px_orc [(158, fun a h => match a with
    | [.inr (.inl v0), .inl v1] => wu_at v0 v1 h
    | _ => none)]
theorem wk_saidThing_h_orc_ok {d : Nat} : px_Or (d + 1) (wk_saidThing_h_orc) := px_orc_ok (by
  refine px_o1 (fun a h q e => by
    dsimp only at e
    split at e
    · exact wu_at_ok (d := d + 0) e
    · cases e) ?_
  exact px_o0)
set_option maxRecDepth 200000 in
theorem wk_saidThing_h_ok {d : Nat} {h : pH} {q : Int32 × pH} (e : wk_saidThing_h h = some q) : px_Con (d + 2) 109 [.inr (.inl 33)] h q :=
  px_con (X := pX_RX9) (b := prog_11_method_11_code) (nL := 1) (rt := (some .int)) rfl rfl (Nat.le_of_ble_eq_true rfl) rfl (px_blk_ok (d := d + 1) (M := (pX_RX9, prog_11_method_11_code, 1, (some .int))) (C := wk_saidThing_h_orc) (code := wk_saidThing_h_code) (ld := []) (kl := []) (wk_saidThing_h_orc_ok) pX_ok_RX9 wk_saidThing_h_code_ok (px_k0) 13 0 _ _ _ q e)
/-! WordsUnsaid$Walk.crossed()I -/
noncomputable def wk_crossed_h (h : pH) : pR :=
  px_bind (wu_at 37 ((h 33 9) - (px_c 1)) h) fun z1 h2 =>
  some (z1, h2)
def wk_crossed_h_code : pCode := [(0, .aload_n 0, 1), (1, .getfield 29, 3), (4, .aload_n 0, 1), (5, .getfield 66, 3), (8, .iconst 1, 1), (9, .isub, 1), (10, .invokestatic 44, 3), (13, .ireturn, 1)]
set_option maxRecDepth 200000 in
theorem wk_crossed_h_code_ok : px_code prog_11_method_10_code wk_crossed_h_code = true := by decide +kernel
noncomputable def wk_crossed_h_orc : pC := px_orc [(158, fun a h => match a with
    | [.inr (.inl v0), .inl v1] => wu_at v0 v1 h
    | _ => none)]
theorem wk_crossed_h_orc_ok {d : Nat} : px_Or (d + 1) (wk_crossed_h_orc) := px_orc_ok (by
  refine px_o1 (fun a h q e => by
    dsimp only at e
    split at e
    · exact wu_at_ok (d := d + 0) e
    · cases e) ?_
  exact px_o0)
set_option maxRecDepth 200000 in
theorem wk_crossed_h_ok {d : Nat} {h : pH} {q : Int32 × pH} (e : wk_crossed_h h = some q) : px_Con (d + 2) 108 [.inr (.inl 33)] h q :=
  px_con (X := pX_RX9) (b := prog_11_method_10_code) (nL := 1) (rt := (some .int)) rfl rfl (Nat.le_of_ble_eq_true rfl) rfl (px_blk_ok (d := d + 1) (M := (pX_RX9, prog_11_method_10_code, 1, (some .int))) (C := wk_crossed_h_orc) (code := wk_crossed_h_code) (ld := []) (kl := []) (wk_crossed_h_orc_ok) pX_ok_RX9 wk_crossed_h_code_ok (px_k0) 13 0 _ _ _ q e)
/-! WordsUnsaid$Walk.isUnderWay()Z -/
noncomputable def wk_isUnderWay_h_27 (s0 : Int32) (h : pH) : pR :=
  px_bz s0 h
noncomputable def wk_isUnderWay_h_26 (h : pH) : pR :=
  wk_isUnderWay_h_27 (px_c 0) h
noncomputable def wk_isUnderWay_h (h : pH) : pR :=
  px_bind (wk_saidThing_h h) fun z1 h2 =>
  if z1 = (px_c (-1)) then
    px_bind (wk_crossed_h h2) fun z3 h4 =>
    if (h4 22 9) ≤ z3 then
      wk_isUnderWay_h_26 h4
    else
      wk_isUnderWay_h_27 (px_c 1) h4
  else
    wk_isUnderWay_h_26 h2
def wk_isUnderWay_h_code : pCode := [(0, .aload_n 0, 1), (1, .invokevirtual 111, 3), (4, .iconst (-1), 1), (5, .if_icmp .ne (21), 3), (8, .aload_n 0, 1), (9, .invokevirtual 114, 3), (12, .aload_n 0, 1), (13, .getfield 15, 3), (16, .getfield 105, 3), (19, .if_icmp .ge (7), 3), (22, .iconst 1, 1), (23, .goto (4), 3), (26, .iconst 0, 1), (27, .ireturn, 1)]
set_option maxRecDepth 200000 in
theorem wk_isUnderWay_h_code_ok : px_code prog_11_method_12_code wk_isUnderWay_h_code = true := by decide +kernel
noncomputable def wk_isUnderWay_h_orc : pC := px_orc [(109, fun a h => match a with
    | [.inr (.inl 33)] => wk_saidThing_h h
    | _ => none), (108, fun a h => match a with
    | [.inr (.inl 33)] => wk_crossed_h h
    | _ => none)]
theorem wk_isUnderWay_h_orc_ok {d : Nat} : px_Or (d + 2) (wk_isUnderWay_h_orc) := px_orc_ok (by
  refine px_o1 (fun a h q e => by
    dsimp only at e
    split at e
    · exact wk_saidThing_h_ok (d := d + 0) e
    · cases e) ?_
  refine px_o1 (fun a h q e => by
    dsimp only at e
    split at e
    · exact wk_crossed_h_ok (d := d + 0) e
    · cases e) ?_
  exact px_o0)
set_option maxRecDepth 200000 in
theorem wk_isUnderWay_h_27_ok {d : Nat} : ∀ (s0 : Int32) (h : pH) (q : Int32 × pH), wk_isUnderWay_h_27 s0 h = some q → px_G (d + 2 + 1) (pX_RX9, prog_11_method_12_code, 1, (some .boolean)) 27 [none] [.inl s0] h q := by
  intro s0 h q e
  exact px_blk_ok (d := d + 2) (M := (pX_RX9, prog_11_method_12_code, 1, (some .boolean))) (C := wk_isUnderWay_h_orc) (code := wk_isUnderWay_h_code) (ld := []) (kl := []) (wk_isUnderWay_h_orc_ok) pX_ok_RX9 wk_isUnderWay_h_code_ok (px_k0) 19 27 _ _ h q e
set_option maxRecDepth 200000 in
theorem wk_isUnderWay_h_26_ok {d : Nat} : ∀ (h : pH) (q : Int32 × pH), wk_isUnderWay_h_26 h = some q → px_G (d + 2 + 1) (pX_RX9, prog_11_method_12_code, 1, (some .boolean)) 26 [none] [] h q := by
  intro h q e
  exact px_blk_ok (d := d + 2) (M := (pX_RX9, prog_11_method_12_code, 1, (some .boolean))) (C := wk_isUnderWay_h_orc) (code := wk_isUnderWay_h_code) (ld := [27]) (kl := [(27, fun ls st h => px_if (px_fit [0] ls && px_fits [1] st) (wk_isUnderWay_h_27 (px_si st 0) h))]) (wk_isUnderWay_h_orc_ok) pX_ok_RX9 wk_isUnderWay_h_code_ok (px_k1 (px_ko (ts := [0]) (ss := [1]) fun ls st h q e => wk_isUnderWay_h_27_ok _ _ _ e) px_k0) 19 26 _ _ h q e
set_option maxRecDepth 200000 in
theorem wk_isUnderWay_h_ok {d : Nat} {h : pH} {q : Int32 × pH} (e : wk_isUnderWay_h h = some q) : px_Con (d + 3) 110 [.inr (.inl 33)] h q :=
  px_con (X := pX_RX9) (b := prog_11_method_12_code) (nL := 1) (rt := (some .boolean)) rfl rfl (Nat.le_of_ble_eq_true rfl) rfl (px_blk_ok (d := d + 2) (M := (pX_RX9, prog_11_method_12_code, 1, (some .boolean))) (C := wk_isUnderWay_h_orc) (code := wk_isUnderWay_h_code) (ld := [26, 27]) (kl := [(26, fun ls st h => px_if (px_fit [0] ls && px_fits [] st) (wk_isUnderWay_h_26 h)), (27, fun ls st h => px_if (px_fit [0] ls && px_fits [1] st) (wk_isUnderWay_h_27 (px_si st 0) h))]) (wk_isUnderWay_h_orc_ok) pX_ok_RX9 wk_isUnderWay_h_code_ok (px_k1 (px_ko (ts := [0]) (ss := []) fun ls st h q e => wk_isUnderWay_h_26_ok _ _ e) (px_k1 (px_ko (ts := [0]) (ss := [1]) fun ls st h q e => wk_isUnderWay_h_27_ok _ _ _ e) px_k0)) 19 0 _ _ _ q e)
/-! WordsUnsaid$Walk.isOver()Z -/
noncomputable def wk_isOver_h_27 (s0 : Int32) (h : pH) : pR :=
  px_bz s0 h
noncomputable def wk_isOver_h_26 (h : pH) : pR :=
  wk_isOver_h_27 (px_c 0) h
noncomputable def wk_isOver_h (h : pH) : pR :=
  px_bind (wk_saidThing_h h) fun z1 h2 =>
  if z1 = (px_c (-1)) then
    px_bind (wk_crossed_h h2) fun z3 h4 =>
    if z3 = (h4 22 9) then
      wk_isOver_h_27 (px_c 1) h4
    else
      wk_isOver_h_26 h4
  else
    wk_isOver_h_26 h2
def wk_isOver_h_code : pCode := [(0, .aload_n 0, 1), (1, .invokevirtual 111, 3), (4, .iconst (-1), 1), (5, .if_icmp .ne (21), 3), (8, .aload_n 0, 1), (9, .invokevirtual 114, 3), (12, .aload_n 0, 1), (13, .getfield 15, 3), (16, .getfield 105, 3), (19, .if_icmp .ne (7), 3), (22, .iconst 1, 1), (23, .goto (4), 3), (26, .iconst 0, 1), (27, .ireturn, 1)]
set_option maxRecDepth 200000 in
theorem wk_isOver_h_code_ok : px_code prog_11_method_13_code wk_isOver_h_code = true := by decide +kernel
noncomputable def wk_isOver_h_orc : pC := px_orc [(109, fun a h => match a with
    | [.inr (.inl 33)] => wk_saidThing_h h
    | _ => none), (108, fun a h => match a with
    | [.inr (.inl 33)] => wk_crossed_h h
    | _ => none)]
theorem wk_isOver_h_orc_ok {d : Nat} : px_Or (d + 2) (wk_isOver_h_orc) := px_orc_ok (by
  refine px_o1 (fun a h q e => by
    dsimp only at e
    split at e
    · exact wk_saidThing_h_ok (d := d + 0) e
    · cases e) ?_
  refine px_o1 (fun a h q e => by
    dsimp only at e
    split at e
    · exact wk_crossed_h_ok (d := d + 0) e
    · cases e) ?_
  exact px_o0)
set_option maxRecDepth 200000 in
theorem wk_isOver_h_27_ok {d : Nat} : ∀ (s0 : Int32) (h : pH) (q : Int32 × pH), wk_isOver_h_27 s0 h = some q → px_G (d + 2 + 1) (pX_RX9, prog_11_method_13_code, 1, (some .boolean)) 27 [none] [.inl s0] h q := by
  intro s0 h q e
  exact px_blk_ok (d := d + 2) (M := (pX_RX9, prog_11_method_13_code, 1, (some .boolean))) (C := wk_isOver_h_orc) (code := wk_isOver_h_code) (ld := []) (kl := []) (wk_isOver_h_orc_ok) pX_ok_RX9 wk_isOver_h_code_ok (px_k0) 19 27 _ _ h q e
set_option maxRecDepth 200000 in
theorem wk_isOver_h_26_ok {d : Nat} : ∀ (h : pH) (q : Int32 × pH), wk_isOver_h_26 h = some q → px_G (d + 2 + 1) (pX_RX9, prog_11_method_13_code, 1, (some .boolean)) 26 [none] [] h q := by
  intro h q e
  exact px_blk_ok (d := d + 2) (M := (pX_RX9, prog_11_method_13_code, 1, (some .boolean))) (C := wk_isOver_h_orc) (code := wk_isOver_h_code) (ld := [27]) (kl := [(27, fun ls st h => px_if (px_fit [0] ls && px_fits [1] st) (wk_isOver_h_27 (px_si st 0) h))]) (wk_isOver_h_orc_ok) pX_ok_RX9 wk_isOver_h_code_ok (px_k1 (px_ko (ts := [0]) (ss := [1]) fun ls st h q e => wk_isOver_h_27_ok _ _ _ e) px_k0) 19 26 _ _ h q e
set_option maxRecDepth 200000 in
theorem wk_isOver_h_ok {d : Nat} {h : pH} {q : Int32 × pH} (e : wk_isOver_h h = some q) : px_Con (d + 3) 111 [.inr (.inl 33)] h q :=
  px_con (X := pX_RX9) (b := prog_11_method_13_code) (nL := 1) (rt := (some .boolean)) rfl rfl (Nat.le_of_ble_eq_true rfl) rfl (px_blk_ok (d := d + 2) (M := (pX_RX9, prog_11_method_13_code, 1, (some .boolean))) (C := wk_isOver_h_orc) (code := wk_isOver_h_code) (ld := [26, 27]) (kl := [(26, fun ls st h => px_if (px_fit [0] ls && px_fits [] st) (wk_isOver_h_26 h)), (27, fun ls st h => px_if (px_fit [0] ls && px_fits [1] st) (wk_isOver_h_27 (px_si st 0) h))]) (wk_isOver_h_orc_ok) pX_ok_RX9 wk_isOver_h_code_ok (px_k1 (px_ko (ts := [0]) (ss := []) fun ls st h q e => wk_isOver_h_26_ok _ _ e) (px_k1 (px_ko (ts := [0]) (ss := [1]) fun ls st h q e => wk_isOver_h_27_ok _ _ _ e) px_k0)) 19 0 _ _ _ q e)
/-! WordsUnsaid$Walk.copyToBest()V -/
noncomputable def wk_copyToBest_h_2 : Nat → Int32 → pH → pR
  | 0, _, _ => none
  | n + 1, x1, h =>
    if (h 33 9) ≤ x1 then
      some (0, h)
    else
      px_bind (wu_at 35 x1 h) fun z1 h2 =>
      px_bind (wu_put 36 x1 z1 h2) fun _ h4 =>
      wk_copyToBest_h_2 n (x1 + px_c 1) h4
noncomputable def wk_copyToBest_h (h : pH) : pR :=
  wk_copyToBest_h_2 px_F (px_c 0) h
def wk_copyToBest_h_code : pCode := [(0, .iconst 0, 1), (1, .istore_n 1, 1), (2, .iload_n 1, 1), (3, .aload_n 0, 1), (4, .getfield 66, 3), (7, .if_icmp .ge (25), 3), (10, .aload_n 0, 1), (11, .getfield 26, 3), (14, .iload_n 1, 1), (15, .aload_n 0, 1), (16, .getfield 23, 3), (19, .iload_n 1, 1), (20, .invokestatic 44, 3), (23, .invokestatic 48, 3), (26, .iinc 1 (1), 3), (29, .goto (-27), 3), (32, .return_, 1)]
set_option maxRecDepth 200000 in
theorem wk_copyToBest_h_code_ok : px_code prog_11_method_16_code wk_copyToBest_h_code = true := by decide +kernel
noncomputable def wk_copyToBest_h_orc : pC := px_orc [(158, fun a h => match a with
    | [.inr (.inl v0), .inl v1] => wu_at v0 v1 h
    | _ => none), (159, fun a h => match a with
    | [.inr (.inl v0), .inl v1, .inl v2] => wu_put v0 v1 v2 h
    | _ => none)]
theorem wk_copyToBest_h_orc_ok {d : Nat} : px_Or (d + 1) (wk_copyToBest_h_orc) := px_orc_ok (by
  refine px_o1 (fun a h q e => by
    dsimp only at e
    split at e
    · exact wu_at_ok (d := d + 0) e
    · cases e) ?_
  refine px_o1 (fun a h q e => by
    dsimp only at e
    split at e
    · exact wu_put_ok (d := d + 0) e
    · cases e) ?_
  exact px_o0)
set_option maxRecDepth 200000 in
theorem wk_copyToBest_h_2_ok {d : Nat} : ∀ (n : Nat) (x1 : Int32) (h : pH) (q : Int32 × pH), wk_copyToBest_h_2 n x1 h = some q → px_G (d + 1 + 1) (pX_RX9, prog_11_method_16_code, 2, none) 2 [some (.inr (.inl 33)), some (.inl x1)] [] h q := by
  intro n
  induction n with
  | zero =>
    intro x1 h q e
    cases e
  | succ n ih =>
    intro x1 h q e
    exact px_blk_ok (d := d + 1) (M := (pX_RX9, prog_11_method_16_code, 2, none)) (C := wk_copyToBest_h_orc) (code := wk_copyToBest_h_code) (ld := [2]) (kl := [(2, fun ls st h => px_if (px_fit [43, 1] ls && px_fits [] st) (wk_copyToBest_h_2 n (px_gi ls 1) h))]) (wk_copyToBest_h_orc_ok) pX_ok_RX9 wk_copyToBest_h_code_ok (px_k1 (px_ko (ts := [43, 1]) (ss := []) fun ls st h q e => ih _ _ _ e) px_k0) 22 2 _ _ h q e
set_option maxRecDepth 200000 in
theorem wk_copyToBest_h_ok {d : Nat} {h : pH} {q : Int32 × pH} (e : wk_copyToBest_h h = some q) : px_Con (d + 2) 114 [.inr (.inl 33)] h q :=
  px_con (X := pX_RX9) (b := prog_11_method_16_code) (nL := 2) (rt := none) rfl rfl (Nat.le_of_ble_eq_true rfl) rfl (px_blk_ok (d := d + 1) (M := (pX_RX9, prog_11_method_16_code, 2, none)) (C := wk_copyToBest_h_orc) (code := wk_copyToBest_h_code) (ld := [2]) (kl := [(2, fun ls st h => px_if (px_fit [43, 1] ls && px_fits [] st) (wk_copyToBest_h_2 px_F (px_gi ls 1) h))]) (wk_copyToBest_h_orc_ok) pX_ok_RX9 wk_copyToBest_h_code_ok (px_k1 (px_ko (ts := [43, 1]) (ss := []) fun ls st h q e => wk_copyToBest_h_2_ok _ _ _ _ e) px_k0) 22 0 _ _ _ q e)
/-! WordsUnsaid$Walk.findShortest()I -/
noncomputable def wk_findShortest_h_57 (x1 : Int32) (h : pH) : pR :=
  some (x1, h)
noncomputable def wk_findShortest_h_51 (r6 : Int32 → Int32 → Int32 → pH → pR) (x1 : Int32) (x2 : Int32) (x3 : Int32) (h : pH) : pR :=
  r6 x1 x2 (x3 + px_c 1) h
noncomputable def wk_findShortest_h_6 : Nat → Int32 → Int32 → Int32 → pH → pR
  | 0, _, _, _, _ => none
  | n + 1, x1, x2, x3, h =>
    if (px_k 1000000) ≤ x3 then
      wk_findShortest_h_57 x1 h
    else
      px_bind (wk_next_h x2 h) fun z1 h2 =>
      if z1 = 0 then
        wk_findShortest_h_57 x1 h2
      else
        px_bind (wk_isUnderWay_h h2) fun z3 h4 =>
        px_bind (wk_isOver_h h4) fun z5 h6 =>
        if z5 = 0 then
          wk_findShortest_h_51 (wk_findShortest_h_6 n) x1 z3 x3 h6
        else
          let y1_7 := h6 33 9
          let h8 := px_w h6 33 10 ((h6 33 9) - (px_c 1))
          px_bind (wk_copyToBest_h h8) fun _ h10 =>
          wk_findShortest_h_51 (wk_findShortest_h_6 n) y1_7 z3 x3 h10
noncomputable def wk_findShortest_h (h : pH) : pR :=
  wk_findShortest_h_6 px_F (px_c 0) (px_c 1) (px_c 0) h
def wk_findShortest_h_code : pCode := [(0, .iconst 0, 1), (1, .istore_n 1, 1), (2, .iconst 1, 1), (3, .istore_n 2, 1), (4, .iconst 0, 1), (5, .istore_n 3, 1), (6, .iload_n 3, 1), (7, .ldc 117, 2), (9, .if_icmp .ge (48), 3), (12, .aload_n 0, 1), (13, .iload_n 2, 1), (14, .invokevirtual 118, 3), (17, .ifCond .eq (40), 3), (20, .aload_n 0, 1), (21, .invokevirtual 122, 3), (24, .istore_n 2, 1), (25, .aload_n 0, 1), (26, .invokevirtual 125, 3), (29, .ifCond .eq (22), 3), (32, .aload_n 0, 1), (33, .getfield 66, 3), (36, .istore_n 1, 1), (37, .aload_n 0, 1), (38, .aload_n 0, 1), (39, .getfield 66, 3), (42, .iconst 1, 1), (43, .isub, 1), (44, .putfield 62, 3), (47, .aload_n 0, 1), (48, .invokevirtual 128, 3), (51, .iinc 3 (1), 3), (54, .goto (-48), 3), (57, .iload_n 1, 1), (58, .ireturn, 1)]
set_option maxRecDepth 200000 in
theorem wk_findShortest_h_code_ok : px_code prog_11_method_15_code wk_findShortest_h_code = true := by decide +kernel
noncomputable def wk_findShortest_h_orc : pC := px_orc [(103, fun a h => match a with
    | [.inr (.inl 33), .inl v1] => wk_next_h v1 h
    | _ => none), (110, fun a h => match a with
    | [.inr (.inl 33)] => wk_isUnderWay_h h
    | _ => none), (111, fun a h => match a with
    | [.inr (.inl 33)] => wk_isOver_h h
    | _ => none), (114, fun a h => match a with
    | [.inr (.inl 33)] => wk_copyToBest_h h
    | _ => none)]
theorem wk_findShortest_h_orc_ok {d : Nat} : px_Or (d + 5) (wk_findShortest_h_orc) := px_orc_ok (by
  refine px_o1 (fun a h q e => by
    dsimp only at e
    split at e
    · exact wk_next_h_ok (d := d + 0) e
    · cases e) ?_
  refine px_o1 (fun a h q e => by
    dsimp only at e
    split at e
    · exact wk_isUnderWay_h_ok (d := d + 2) e
    · cases e) ?_
  refine px_o1 (fun a h q e => by
    dsimp only at e
    split at e
    · exact wk_isOver_h_ok (d := d + 2) e
    · cases e) ?_
  refine px_o1 (fun a h q e => by
    dsimp only at e
    split at e
    · exact wk_copyToBest_h_ok (d := d + 3) e
    · cases e) ?_
  exact px_o0)
set_option maxRecDepth 200000 in
theorem wk_findShortest_h_57_ok {d : Nat} : ∀ (x1 : Int32) (h : pH) (q : Int32 × pH), wk_findShortest_h_57 x1 h = some q → px_G (d + 5 + 1) (pX_RX9, prog_11_method_15_code, 4, (some .int)) 57 [none, some (.inl x1), none, none] [] h q := by
  intro x1 h q e
  exact px_blk_ok (d := d + 5) (M := (pX_RX9, prog_11_method_15_code, 4, (some .int))) (C := wk_findShortest_h_orc) (code := wk_findShortest_h_code) (ld := []) (kl := []) (wk_findShortest_h_orc_ok) pX_ok_RX9 wk_findShortest_h_code_ok (px_k0) 39 57 _ _ h q e
set_option maxRecDepth 200000 in
theorem wk_findShortest_h_51_ok {d : Nat} {r6 : Int32 → Int32 → Int32 → pH → pR} (hr6 : ∀ (x1 : Int32) (x2 : Int32) (x3 : Int32) (h : pH) (q : Int32 × pH), r6 x1 x2 x3 h = some q → px_G (d + 5 + 1) (pX_RX9, prog_11_method_15_code, 4, (some .int)) 6 [some (.inr (.inl 33)), some (.inl x1), some (.inl x2), some (.inl x3)] [] h q) : ∀ (x1 : Int32) (x2 : Int32) (x3 : Int32) (h : pH) (q : Int32 × pH), wk_findShortest_h_51 r6 x1 x2 x3 h = some q → px_G (d + 5 + 1) (pX_RX9, prog_11_method_15_code, 4, (some .int)) 51 [some (.inr (.inl 33)), some (.inl x1), some (.inl x2), some (.inl x3)] [] h q := by
  intro x1 x2 x3 h q e
  exact px_blk_ok (d := d + 5) (M := (pX_RX9, prog_11_method_15_code, 4, (some .int))) (C := wk_findShortest_h_orc) (code := wk_findShortest_h_code) (ld := [6]) (kl := [(6, fun ls st h => px_if (px_fit [43, 1, 1, 1] ls && px_fits [] st) (r6 (px_gi ls 1) (px_gi ls 2) (px_gi ls 3) h))]) (wk_findShortest_h_orc_ok) pX_ok_RX9 wk_findShortest_h_code_ok (px_k1 (px_ko (ts := [43, 1, 1, 1]) (ss := []) fun ls st h q e => hr6 _ _ _ _ _ e) px_k0) 39 51 _ _ h q e
set_option maxRecDepth 200000 in
theorem wk_findShortest_h_6_ok {d : Nat} : ∀ (n : Nat) (x1 : Int32) (x2 : Int32) (x3 : Int32) (h : pH) (q : Int32 × pH), wk_findShortest_h_6 n x1 x2 x3 h = some q → px_G (d + 5 + 1) (pX_RX9, prog_11_method_15_code, 4, (some .int)) 6 [some (.inr (.inl 33)), some (.inl x1), some (.inl x2), some (.inl x3)] [] h q := by
  intro n
  induction n with
  | zero =>
    intro x1 x2 x3 h q e
    cases e
  | succ n ih =>
    intro x1 x2 x3 h q e
    exact px_blk_ok (d := d + 5) (M := (pX_RX9, prog_11_method_15_code, 4, (some .int))) (C := wk_findShortest_h_orc) (code := wk_findShortest_h_code) (ld := [51, 57]) (kl := [(51, fun ls st h => px_if (px_fit [43, 1, 1, 1] ls && px_fits [] st) (wk_findShortest_h_51 (wk_findShortest_h_6 n) (px_gi ls 1) (px_gi ls 2) (px_gi ls 3) h)), (57, fun ls st h => px_if (px_fit [0, 1, 0, 0] ls && px_fits [] st) (wk_findShortest_h_57 (px_gi ls 1) h))]) (wk_findShortest_h_orc_ok) pX_ok_RX9 wk_findShortest_h_code_ok (px_k1 (px_ko (ts := [43, 1, 1, 1]) (ss := []) fun ls st h q e => wk_findShortest_h_51_ok ih _ _ _ _ _ e) (px_k1 (px_ko (ts := [0, 1, 0, 0]) (ss := []) fun ls st h q e => wk_findShortest_h_57_ok _ _ _ e) px_k0)) 39 6 _ _ h q e
set_option maxRecDepth 200000 in
theorem wk_findShortest_h_ok {d : Nat} {h : pH} {q : Int32 × pH} (e : wk_findShortest_h h = some q) : px_Con (d + 6) 113 [.inr (.inl 33)] h q :=
  px_con (X := pX_RX9) (b := prog_11_method_15_code) (nL := 4) (rt := (some .int)) rfl rfl (Nat.le_of_ble_eq_true rfl) rfl (px_blk_ok (d := d + 5) (M := (pX_RX9, prog_11_method_15_code, 4, (some .int))) (C := wk_findShortest_h_orc) (code := wk_findShortest_h_code) (ld := [6]) (kl := [(6, fun ls st h => px_if (px_fit [43, 1, 1, 1] ls && px_fits [] st) (wk_findShortest_h_6 px_F (px_gi ls 1) (px_gi ls 2) (px_gi ls 3) h))]) (wk_findShortest_h_orc_ok) pX_ok_RX9 wk_findShortest_h_code_ok (px_k1 (px_ko (ts := [43, 1, 1, 1]) (ss := []) fun ls st h q e => wk_findShortest_h_6_ok _ _ _ _ _ _ e) px_k0) 39 0 _ _ _ q e)
/-! WordsUnsaid.back(II)I -/
noncomputable def wu_back_24 (h : pH) : pR :=
  some (px_c (-1), h)
noncomputable def wu_back_204 (s0 : Int32) (h : pH) : pR :=
  some (s0, h)
noncomputable def wu_back_192 (x3 : Int32) (h : pH) : pR :=
  if x3 ≤ (px_c 6) then
    wu_back_204 x3 h
  else
    wu_back_204 (px_c (-2)) h
noncomputable def wu_back_186 (r46 : Int32 → Int32 → Int32 → Int32 → pH → pR) (x3 : Int32) (x4 : Int32) (x5 : Int32) (x6 : Int32) (h : pH) : pR :=
  r46 x3 x4 x5 (x6 + px_c 1) h
noncomputable def wu_back_155 (r46 : Int32 → Int32 → Int32 → Int32 → pH → pR) (x3 : Int32) (x4 : Int32) (x5 : Int32) (x6 : Int32) (x8 : Int32) (h : pH) : pR :=
  if x8 ≤ 0 then
    wu_back_186 r46 x3 x4 x5 x6 h
  else
    let y3_1 := (h 25 9) + x8
    let y4_2 := h 25 9
    px_bind (wu_tellBothWays x8 h) fun _ h4 =>
    wu_back_186 r46 y3_1 y4_2 x5 x6 h4
noncomputable def wu_back_101 (r46 : Int32 → Int32 → Int32 → Int32 → pH → pR) (x3 : Int32) (x4 : Int32) (x5 : Int32) (x6 : Int32) (s0 : Int32) (s1 : Int32) (h : pH) : pR :=
  let y7_1 := s1 - s0
  px_bind (wk_isOver h) fun z2 h3 =>
  if z2 = 0 then
    wu_back_155 r46 x3 x4 x5 x6 (px_c 0) h3
  else
    if y7_1 ≤ 0 then
      wu_back_155 r46 x3 x4 x5 x6 (px_c 0) h3
    else
      px_bind (wk_leaveTo h3) fun _ h5 =>
      px_bind (wk_startOnLeft_h (px_min y7_1 (px_c 3)) h5) fun _ h7 =>
      px_bind (wk_findShortest_h h7) fun z8 h9 =>
      wu_back_155 r46 x3 x4 x5 x6 z8 h9
noncomputable def wu_back_46 : Nat → Int32 → Int32 → Int32 → Int32 → pH → pR
  | 0, _, _, _, _, _ => none
  | n + 1, x3, x4, x5, x6, h =>
    if (px_k 1000000) ≤ x6 then
      wu_back_192 x3 h
    else
      px_bind (wk_next x5 h) fun z1 h2 =>
      if z1 = 0 then
        wu_back_192 x3 h2
      else
        px_bind (wk_isUnderWay h2) fun z3 h4 =>
        if x4 ≤ (h4 25 9) then
          wu_back_101 (wu_back_46 n) x3 x4 z3 x6 (px_c 1) (x3 - (h4 25 9)) h4
        else
          wu_back_101 (wu_back_46 n) x3 x4 z3 x6 (px_c 0) (x3 - (h4 25 9)) h4
noncomputable def wu_back (x1 : Int32) (x2 : Int32) (h : pH) : pR :=
  px_bind (cr_begin x1 (px_c (-1)) x2 h) fun z1 h2 =>
  if z1 = 0 then
    wu_back_24 h2
  else
    if (h2 22 7) < (px_c 2) then
      px_bind (wk_start (px_c 3) h2) fun _ h4 =>
      wu_back_46 px_F (px_c 7) (px_c 4) (px_c 1) (px_c 0) h4
    else
      wu_back_24 h2
def wu_back_code : pCode := [(0, .aload_n 0, 1), (1, .getfield 42, 3), (4, .iload_n 1, 1), (5, .iconst (-1), 1), (6, .iload_n 2, 1), (7, .invokevirtual 261, 3), (10, .ifCond .eq (14), 3), (13, .aload_n 0, 1), (14, .getfield 42, 3), (17, .getfield 313, 3), (20, .iconst 2, 1), (21, .if_icmp .lt (5), 3), (24, .iconst (-1), 1), (25, .ireturn, 1), (26, .bipush (7), 2), (28, .istore_n 3, 1), (29, .iconst 4, 1), (30, .istore 4, 2), (32, .iconst 1, 1), (33, .istore 5, 2), (35, .aload_n 0, 1), (36, .getfield 51, 3), (39, .iconst 3, 1), (40, .invokevirtual 289, 3), (43, .iconst 0, 1), (44, .istore 6, 2), (46, .iload 6, 2), (48, .ldc_w 302, 3), (51, .if_icmp .ge (141), 3), (54, .aload_n 0, 1), (55, .getfield 51, 3), (58, .iload 5, 2), (60, .invokevirtual 303, 3), (63, .ifCond .eq (129), 3), (66, .aload_n 0, 1), (67, .getfield 51, 3), (70, .invokevirtual 316, 3), (73, .istore 5, 2), (75, .iload_n 3, 1), (76, .aload_n 0, 1), (77, .getfield 51, 3), (80, .getfield 319, 3), (83, .isub, 1), (84, .aload_n 0, 1), (85, .getfield 51, 3), (88, .getfield 319, 3), (91, .iload 4, 2), (93, .if_icmp .ge (7), 3), (96, .iconst 0, 1), (97, .goto (4), 3), (100, .iconst 1, 1), (101, .isub, 1), (102, .istore 7, 2), (104, .iconst 0, 1), (105, .istore 8, 2), (107, .aload_n 0, 1), (108, .getfield 51, 3), (111, .invokevirtual 307, 3), (114, .ifCond .eq (41), 3), (117, .iload 7, 2), (119, .ifCond .le (36), 3), (122, .aload_n 0, 1), (123, .getfield 51, 3), (126, .aload_n 0, 1), (127, .getfield 55, 3), (130, .invokevirtual 320, 3), (133, .aload_n 0, 1), (134, .getfield 55, 3), (137, .iload 7, 2), (139, .iconst 3, 1), (140, .invokestatic 275, 3), (143, .invokevirtual 324, 3), (146, .aload_n 0, 1), (147, .getfield 55, 3), (150, .invokevirtual 292, 3), (153, .istore 8, 2), (155, .iload 8, 2), (157, .ifCond .le (29), 3), (160, .aload_n 0, 1), (161, .getfield 51, 3), (164, .getfield 319, 3), (167, .iload 8, 2), (169, .iadd, 1), (170, .istore_n 3, 1), (171, .aload_n 0, 1), (172, .getfield 51, 3), (175, .getfield 319, 3), (178, .istore 4, 2), (180, .aload_n 0, 1), (181, .iload 8, 2), (183, .invokevirtual 327, 3), (186, .iinc 6 (1), 3), (189, .goto (-143), 3), (192, .iload_n 3, 1), (193, .bipush (6), 2), (195, .if_icmp .le (8), 3), (198, .bipush (-2), 2), (200, .goto (4), 3), (203, .iload_n 3, 1), (204, .ireturn, 1)]
set_option maxRecDepth 200000 in
theorem wu_back_code_ok : px_code prog_1_method_23_code wu_back_code = true := by decide +kernel
noncomputable def wu_back_orc : pC := px_orc [(169, fun a h => match a with
    | [.inr (.inl 0), .inl v1] => wu_tellBothWays v1 h
    | _ => none), (111, fun a h => match a with
    | [.inr (.inl 25)] => wk_isOver h
    | _ => none), (102, fun a h => match a with
    | [.inr (.inl 25), .inr (.inl 33)] => wk_leaveTo h
    | _ => none), (101, fun a h => match a with
    | [.inr (.inl 33), .inl v1] => wk_startOnLeft_h v1 h
    | _ => none), (113, fun a h => match a with
    | [.inr (.inl 33)] => wk_findShortest_h h
    | _ => none), (103, fun a h => match a with
    | [.inr (.inl 25), .inl v1] => wk_next v1 h
    | _ => none), (110, fun a h => match a with
    | [.inr (.inl 25)] => wk_isUnderWay h
    | _ => none), (5, fun a h => match a with
    | [.inr (.inl 22), .inl v1, .inl v2, .inl v3] => cr_begin v1 v2 v3 h
    | _ => none), (100, fun a h => match a with
    | [.inr (.inl 25), .inl v1] => wk_start v1 h
    | _ => none)]
theorem wu_back_orc_ok {d : Nat} : px_Or (d + 6) (wu_back_orc) := px_orc_ok (by
  refine px_o1 (fun a h q e => by
    dsimp only at e
    split at e
    · exact wu_tellBothWays_ok (d := d + 2) e
    · cases e) ?_
  refine px_o1 (fun a h q e => by
    dsimp only at e
    split at e
    · exact wk_isOver_ok (d := d + 3) e
    · cases e) ?_
  refine px_o1 (fun a h q e => by
    dsimp only at e
    split at e
    · exact wk_leaveTo_ok (d := d + 4) e
    · cases e) ?_
  refine px_o1 (fun a h q e => by
    dsimp only at e
    split at e
    · exact wk_startOnLeft_h_ok (d := d + 3) e
    · cases e) ?_
  refine px_o1 (fun a h q e => by
    dsimp only at e
    split at e
    · exact wk_findShortest_h_ok (d := d + 0) e
    · cases e) ?_
  refine px_o1 (fun a h q e => by
    dsimp only at e
    split at e
    · exact wk_next_ok (d := d + 1) e
    · cases e) ?_
  refine px_o1 (fun a h q e => by
    dsimp only at e
    split at e
    · exact wk_isUnderWay_ok (d := d + 3) e
    · cases e) ?_
  refine px_o1 (fun a h q e => by
    dsimp only at e
    split at e
    · exact cr_begin_ok (d := d + 1) e
    · cases e) ?_
  refine px_o1 (fun a h q e => by
    dsimp only at e
    split at e
    · exact wk_start_ok (d := d + 2) e
    · cases e) ?_
  exact px_o0)
set_option maxRecDepth 200000 in
theorem wu_back_24_ok {d : Nat} : ∀ (h : pH) (q : Int32 × pH), wu_back_24 h = some q → px_G (d + 6 + 1) (pX_RX10, prog_1_method_23_code, 9, (some .int)) 24 [none, none, none, none, none, none, none, none, none] [] h q := by
  intro h q e
  exact px_blk_ok (d := d + 6) (M := (pX_RX10, prog_1_method_23_code, 9, (some .int))) (C := wu_back_orc) (code := wu_back_code) (ld := []) (kl := []) (wu_back_orc_ok) pX_ok_RX10 wu_back_code_ok (px_k0) 105 24 _ _ h q e
set_option maxRecDepth 200000 in
theorem wu_back_204_ok {d : Nat} : ∀ (s0 : Int32) (h : pH) (q : Int32 × pH), wu_back_204 s0 h = some q → px_G (d + 6 + 1) (pX_RX10, prog_1_method_23_code, 9, (some .int)) 204 [none, none, none, none, none, none, none, none, none] [.inl s0] h q := by
  intro s0 h q e
  exact px_blk_ok (d := d + 6) (M := (pX_RX10, prog_1_method_23_code, 9, (some .int))) (C := wu_back_orc) (code := wu_back_code) (ld := []) (kl := []) (wu_back_orc_ok) pX_ok_RX10 wu_back_code_ok (px_k0) 105 204 _ _ h q e
set_option maxRecDepth 200000 in
theorem wu_back_192_ok {d : Nat} : ∀ (x3 : Int32) (h : pH) (q : Int32 × pH), wu_back_192 x3 h = some q → px_G (d + 6 + 1) (pX_RX10, prog_1_method_23_code, 9, (some .int)) 192 [none, none, none, some (.inl x3), none, none, none, none, none] [] h q := by
  intro x3 h q e
  exact px_blk_ok (d := d + 6) (M := (pX_RX10, prog_1_method_23_code, 9, (some .int))) (C := wu_back_orc) (code := wu_back_code) (ld := [204]) (kl := [(204, fun ls st h => px_if (px_fit [0, 0, 0, 0, 0, 0, 0, 0, 0] ls && px_fits [1] st) (wu_back_204 (px_si st 0) h))]) (wu_back_orc_ok) pX_ok_RX10 wu_back_code_ok (px_k1 (px_ko (ts := [0, 0, 0, 0, 0, 0, 0, 0, 0]) (ss := [1]) fun ls st h q e => wu_back_204_ok _ _ _ e) px_k0) 105 192 _ _ h q e
set_option maxRecDepth 200000 in
theorem wu_back_186_ok {d : Nat} {r46 : Int32 → Int32 → Int32 → Int32 → pH → pR} (hr46 : ∀ (x3 : Int32) (x4 : Int32) (x5 : Int32) (x6 : Int32) (h : pH) (q : Int32 × pH), r46 x3 x4 x5 x6 h = some q → px_G (d + 6 + 1) (pX_RX10, prog_1_method_23_code, 9, (some .int)) 46 [some (.inr (.inl 0)), none, none, some (.inl x3), some (.inl x4), some (.inl x5), some (.inl x6), none, none] [] h q) : ∀ (x3 : Int32) (x4 : Int32) (x5 : Int32) (x6 : Int32) (h : pH) (q : Int32 × pH), wu_back_186 r46 x3 x4 x5 x6 h = some q → px_G (d + 6 + 1) (pX_RX10, prog_1_method_23_code, 9, (some .int)) 186 [some (.inr (.inl 0)), none, none, some (.inl x3), some (.inl x4), some (.inl x5), some (.inl x6), none, none] [] h q := by
  intro x3 x4 x5 x6 h q e
  exact px_blk_ok (d := d + 6) (M := (pX_RX10, prog_1_method_23_code, 9, (some .int))) (C := wu_back_orc) (code := wu_back_code) (ld := [46]) (kl := [(46, fun ls st h => px_if (px_fit [10, 0, 0, 1, 1, 1, 1, 0, 0] ls && px_fits [] st) (r46 (px_gi ls 3) (px_gi ls 4) (px_gi ls 5) (px_gi ls 6) h))]) (wu_back_orc_ok) pX_ok_RX10 wu_back_code_ok (px_k1 (px_ko (ts := [10, 0, 0, 1, 1, 1, 1, 0, 0]) (ss := []) fun ls st h q e => hr46 _ _ _ _ _ _ e) px_k0) 105 186 _ _ h q e
set_option maxRecDepth 200000 in
theorem wu_back_155_ok {d : Nat} {r46 : Int32 → Int32 → Int32 → Int32 → pH → pR} (hr46 : ∀ (x3 : Int32) (x4 : Int32) (x5 : Int32) (x6 : Int32) (h : pH) (q : Int32 × pH), r46 x3 x4 x5 x6 h = some q → px_G (d + 6 + 1) (pX_RX10, prog_1_method_23_code, 9, (some .int)) 46 [some (.inr (.inl 0)), none, none, some (.inl x3), some (.inl x4), some (.inl x5), some (.inl x6), none, none] [] h q) : ∀ (x3 : Int32) (x4 : Int32) (x5 : Int32) (x6 : Int32) (x8 : Int32) (h : pH) (q : Int32 × pH), wu_back_155 r46 x3 x4 x5 x6 x8 h = some q → px_G (d + 6 + 1) (pX_RX10, prog_1_method_23_code, 9, (some .int)) 155 [some (.inr (.inl 0)), none, none, some (.inl x3), some (.inl x4), some (.inl x5), some (.inl x6), none, some (.inl x8)] [] h q := by
  intro x3 x4 x5 x6 x8 h q e
  exact px_blk_ok (d := d + 6) (M := (pX_RX10, prog_1_method_23_code, 9, (some .int))) (C := wu_back_orc) (code := wu_back_code) (ld := [186]) (kl := [(186, fun ls st h => px_if (px_fit [10, 0, 0, 1, 1, 1, 1, 0, 0] ls && px_fits [] st) (wu_back_186 r46 (px_gi ls 3) (px_gi ls 4) (px_gi ls 5) (px_gi ls 6) h))]) (wu_back_orc_ok) pX_ok_RX10 wu_back_code_ok (px_k1 (px_ko (ts := [10, 0, 0, 1, 1, 1, 1, 0, 0]) (ss := []) fun ls st h q e => wu_back_186_ok hr46 _ _ _ _ _ _ e) px_k0) 105 155 _ _ h q e
set_option maxRecDepth 200000 in
theorem wu_back_101_ok {d : Nat} {r46 : Int32 → Int32 → Int32 → Int32 → pH → pR} (hr46 : ∀ (x3 : Int32) (x4 : Int32) (x5 : Int32) (x6 : Int32) (h : pH) (q : Int32 × pH), r46 x3 x4 x5 x6 h = some q → px_G (d + 6 + 1) (pX_RX10, prog_1_method_23_code, 9, (some .int)) 46 [some (.inr (.inl 0)), none, none, some (.inl x3), some (.inl x4), some (.inl x5), some (.inl x6), none, none] [] h q) : ∀ (x3 : Int32) (x4 : Int32) (x5 : Int32) (x6 : Int32) (s0 : Int32) (s1 : Int32) (h : pH) (q : Int32 × pH), wu_back_101 r46 x3 x4 x5 x6 s0 s1 h = some q → px_G (d + 6 + 1) (pX_RX10, prog_1_method_23_code, 9, (some .int)) 101 [some (.inr (.inl 0)), none, none, some (.inl x3), some (.inl x4), some (.inl x5), some (.inl x6), none, none] [.inl s0, .inl s1] h q := by
  intro x3 x4 x5 x6 s0 s1 h q e
  exact px_blk_ok (d := d + 6) (M := (pX_RX10, prog_1_method_23_code, 9, (some .int))) (C := wu_back_orc) (code := wu_back_code) (ld := [155]) (kl := [(155, fun ls st h => px_if (px_fit [10, 0, 0, 1, 1, 1, 1, 0, 1] ls && px_fits [] st) (wu_back_155 r46 (px_gi ls 3) (px_gi ls 4) (px_gi ls 5) (px_gi ls 6) (px_gi ls 8) h))]) (wu_back_orc_ok) pX_ok_RX10 wu_back_code_ok (px_k1 (px_ko (ts := [10, 0, 0, 1, 1, 1, 1, 0, 1]) (ss := []) fun ls st h q e => wu_back_155_ok hr46 _ _ _ _ _ _ _ e) px_k0) 105 101 _ _ h q e
set_option maxRecDepth 200000 in
theorem wu_back_46_ok {d : Nat} : ∀ (n : Nat) (x3 : Int32) (x4 : Int32) (x5 : Int32) (x6 : Int32) (h : pH) (q : Int32 × pH), wu_back_46 n x3 x4 x5 x6 h = some q → px_G (d + 6 + 1) (pX_RX10, prog_1_method_23_code, 9, (some .int)) 46 [some (.inr (.inl 0)), none, none, some (.inl x3), some (.inl x4), some (.inl x5), some (.inl x6), none, none] [] h q := by
  intro n
  induction n with
  | zero =>
    intro x3 x4 x5 x6 h q e
    cases e
  | succ n ih =>
    intro x3 x4 x5 x6 h q e
    exact px_blk_ok (d := d + 6) (M := (pX_RX10, prog_1_method_23_code, 9, (some .int))) (C := wu_back_orc) (code := wu_back_code) (ld := [101, 192]) (kl := [(101, fun ls st h => px_if (px_fit [10, 0, 0, 1, 1, 1, 1, 0, 0] ls && px_fits [1, 1] st) (wu_back_101 (wu_back_46 n) (px_gi ls 3) (px_gi ls 4) (px_gi ls 5) (px_gi ls 6) (px_si st 0) (px_si st 1) h)), (192, fun ls st h => px_if (px_fit [0, 0, 0, 1, 0, 0, 0, 0, 0] ls && px_fits [] st) (wu_back_192 (px_gi ls 3) h))]) (wu_back_orc_ok) pX_ok_RX10 wu_back_code_ok (px_k1 (px_ko (ts := [10, 0, 0, 1, 1, 1, 1, 0, 0]) (ss := [1, 1]) fun ls st h q e => wu_back_101_ok ih _ _ _ _ _ _ _ _ e) (px_k1 (px_ko (ts := [0, 0, 0, 1, 0, 0, 0, 0, 0]) (ss := []) fun ls st h q e => wu_back_192_ok _ _ _ e) px_k0)) 105 46 _ _ h q e
set_option maxRecDepth 200000 in
theorem wu_back_ok {d : Nat} {x1 : Int32} {x2 : Int32} {h : pH} {q : Int32 × pH} (e : wu_back x1 x2 h = some q) : px_Con (d + 7) 141 [.inr (.inl 0), .inl x1, .inl x2] h q :=
  px_con (X := pX_RX10) (b := prog_1_method_23_code) (nL := 9) (rt := (some .int)) rfl rfl (Nat.le_of_ble_eq_true rfl) rfl (px_blk_ok (d := d + 6) (M := (pX_RX10, prog_1_method_23_code, 9, (some .int))) (C := wu_back_orc) (code := wu_back_code) (ld := [46, 24]) (kl := [(46, fun ls st h => px_if (px_fit [10, 0, 0, 1, 1, 1, 1, 0, 0] ls && px_fits [] st) (wu_back_46 px_F (px_gi ls 3) (px_gi ls 4) (px_gi ls 5) (px_gi ls 6) h)), (24, fun ls st h => px_if (px_fit [0, 0, 0, 0, 0, 0, 0, 0, 0] ls && px_fits [] st) (wu_back_24 h))]) (wu_back_orc_ok) pX_ok_RX10 wu_back_code_ok (px_k1 (px_ko (ts := [10, 0, 0, 1, 1, 1, 1, 0, 0]) (ss := []) fun ls st h q e => wu_back_46_ok _ _ _ _ _ _ _ e) (px_k1 (px_ko (ts := [0, 0, 0, 0, 0, 0, 0, 0, 0]) (ss := []) fun ls st h q e => wu_back_24_ok _ _ e) px_k0)) 105 0 _ _ _ q e)
/-! WordsUnsaid.exact(II)I -/
noncomputable def wu_exact_23 (h : pH) : pR :=
  some (px_c (-1), h)
noncomputable def wu_exact_138 (r48 : Int32 → Int32 → Int32 → Int32 → Int32 → Int32 → pH → pR) (x2 : Int32) (x3 : Int32) (x4 : Int32) (x5 : Int32) (x6 : Int32) (x7 : Int32) (h : pH) : pR :=
  r48 x2 x3 x4 x5 x6 (x7 + px_c 1) h
noncomputable def wu_exact_136 (r48 : Int32 → Int32 → Int32 → Int32 → Int32 → Int32 → pH → pR) (x2 : Int32) (x3 : Int32) (x4 : Int32) (x6 : Int32) (x7 : Int32) (s0 : Int32) (h : pH) : pR :=
  wu_exact_138 r48 x2 x3 x4 s0 x6 x7 h
noncomputable def wu_exact_129 (r48 : Int32 → Int32 → Int32 → Int32 → Int32 → Int32 → pH → pR) (x2 : Int32) (x3 : Int32) (x4 : Int32) (x6 : Int32) (x7 : Int32) (h : pH) : pR :=
  wu_exact_136 r48 x2 x3 x4 x6 x7 x7 h
noncomputable def wu_exact_111 (r48 : Int32 → Int32 → Int32 → Int32 → Int32 → Int32 → pH → pR) (x2 : Int32) (x3 : Int32) (x5 : Int32) (x6 : Int32) (x7 : Int32) (x8 : Int32) (s0 : Int32) (h : pH) : pR :=
  if x5 = (px_c (-1)) then
    wu_exact_129 r48 x2 x3 s0 x6 x7 h
  else
    px_bind (jn_bitCount x5 h) fun z1 h2 =>
    if x8 ≤ z1 then
      wu_exact_136 r48 x2 x3 s0 x6 x7 x5 h2
    else
      wu_exact_129 r48 x2 x3 s0 x6 x7 h2
noncomputable def wu_exact_104 (r48 : Int32 → Int32 → Int32 → Int32 → Int32 → Int32 → pH → pR) (x2 : Int32) (x3 : Int32) (x5 : Int32) (x6 : Int32) (x7 : Int32) (x8 : Int32) (h : pH) : pR :=
  wu_exact_111 r48 x2 x3 x5 x6 x7 x8 x7 h
noncomputable def wu_exact_48 : Nat → Int32 → Int32 → Int32 → Int32 → Int32 → Int32 → pH → pR
  | 0, _, _, _, _, _, _, _ => none
  | n + 1, x2, x3, x4, x5, x6, x7, h =>
    if (px_c 1024) ≤ x7 then
      px_bind (tl_tell_ x4 x5 h) fun _ h2 =>
      some (x6, h2)
    else
      if (x7 &&& (x3 ^^^ (px_c (-1)))) = 0 then
        px_bind (hs_wordsLeft x7 h) fun z3 h4 =>
        if z3 = x2 then
          px_bind (jn_bitCount x7 h4) fun z5 h6 =>
          if x4 = (px_c (-1)) then
            wu_exact_104 (wu_exact_48 n) x2 x3 x5 (x6 + px_c 1) x7 z5 h6
          else
            px_bind (jn_bitCount x4 h6) fun z7 h8 =>
            if z7 ≤ z5 then
              wu_exact_111 (wu_exact_48 n) x2 x3 x5 (x6 + px_c 1) x7 z5 x4 h8
            else
              wu_exact_104 (wu_exact_48 n) x2 x3 x5 (x6 + px_c 1) x7 z5 h8
        else
          wu_exact_138 (wu_exact_48 n) x2 x3 x4 x5 x6 x7 h4
      else
        wu_exact_138 (wu_exact_48 n) x2 x3 x4 x5 x6 x7 h
noncomputable def wu_exact (x1 : Int32) (x2 : Int32) (h : pH) : pR :=
  px_bind (hs_hasPerson x1 h) fun z1 h2 =>
  if z1 = 0 then
    wu_exact_23 h2
  else
    if x2 < (px_c 1) then
      wu_exact_23 h2
    else
      if x2 ≤ (px_c 400) then
        px_bind (hs_unsaidOf ((px_c 1) <<< (x1 &&& 31)) h2) fun z3 h4 =>
        wu_exact_48 px_F x2 z3 (px_c (-1)) (px_c (-1)) (px_c 0) (px_c 1) h4
      else
        wu_exact_23 h2
def wu_exact_code : pCode := [(0, .aload_n 0, 1), (1, .getfield 19, 3), (4, .iload_n 1, 1), (5, .invokevirtual 110, 3), (8, .ifCond .eq (15), 3), (11, .iload_n 2, 1), (12, .iconst 1, 1), (13, .if_icmp .lt (10), 3), (16, .iload_n 2, 1), (17, .sipush (400), 3), (20, .if_icmp .le (5), 3), (23, .iconst (-1), 1), (24, .ireturn, 1), (25, .aload_n 0, 1), (26, .getfield 19, 3), (29, .iconst 1, 1), (30, .iload_n 1, 1), (31, .ishl, 1), (32, .invokevirtual 138, 3), (35, .istore_n 3, 1), (36, .iconst (-1), 1), (37, .istore 4, 2), (39, .iconst (-1), 1), (40, .istore 5, 2), (42, .iconst 0, 1), (43, .istore 6, 2), (45, .iconst 1, 1), (46, .istore 7, 2), (48, .iload 7, 2), (50, .sipush (1024), 3), (53, .if_icmp .ge (91), 3), (56, .iload 7, 2), (58, .iload_n 3, 1), (59, .iconst (-1), 1), (60, .ixor, 1), (61, .iand, 1), (62, .ifCond .ne (76), 3), (65, .aload_n 0, 1), (66, .getfield 19, 3), (69, .iload 7, 2), (71, .invokevirtual 141, 3), (74, .iload_n 2, 1), (75, .if_icmp .ne (63), 3), (78, .iinc 6 (1), 3), (81, .iload 7, 2), (83, .invokestatic 330, 3), (86, .istore 8, 2), (88, .iload 4, 2), (90, .iconst (-1), 1), (91, .if_icmp .eq (13), 3), (94, .iload 8, 2), (96, .iload 4, 2), (98, .invokestatic 330, 3), (101, .if_icmp .ge (8), 3), (104, .iload 7, 2), (106, .goto (5), 3), (109, .iload 4, 2), (111, .istore 4, 2), (113, .iload 5, 2), (115, .iconst (-1), 1), (116, .if_icmp .eq (13), 3), (119, .iload 8, 2), (121, .iload 5, 2), (123, .invokestatic 330, 3), (126, .if_icmp .le (8), 3), (129, .iload 7, 2), (131, .goto (5), 3), (134, .iload 5, 2), (136, .istore 5, 2), (138, .iinc 7 (1), 3), (141, .goto (-93), 3), (144, .aload_n 0, 1), (145, .getfield 75, 3), (148, .iload 4, 2), (150, .iload 5, 2), (152, .invokevirtual 252, 3), (155, .iload 6, 2), (157, .ireturn, 1)]
set_option maxRecDepth 200000 in
theorem wu_exact_code_ok : px_code prog_1_method_24_code wu_exact_code = true := by decide +kernel
noncomputable def wu_exact_orc : pC := px_orc [(279, fun a h => match a with
    | [.inl v0] => jn_bitCount v0 h
    | _ => none), (84, fun a h => match a with
    | [.inr (.inl 45), .inl v1, .inl v2] => tl_tell_ v1 v2 h
    | _ => none), (36, fun a h => match a with
    | [.inr (.inl 3), .inl v1] => hs_wordsLeft v1 h
    | _ => none), (25, fun a h => match a with
    | [.inr (.inl 3), .inl v1] => hs_hasPerson v1 h
    | _ => none), (32, fun a h => match a with
    | [.inr (.inl 3), .inl v1] => hs_unsaidOf v1 h
    | _ => none)]
theorem wu_exact_orc_ok {d : Nat} : px_Or (d + 4) (wu_exact_orc) := px_orc_ok (by
  refine px_o1 (fun a h q e => by
    dsimp only at e
    split at e
    · exact jn_bitCount_ok (d := d + 3) e
    · cases e) ?_
  refine px_o1 (fun a h q e => by
    dsimp only at e
    split at e
    · exact tl_tell__ok (d := d + 0) e
    · cases e) ?_
  refine px_o1 (fun a h q e => by
    dsimp only at e
    split at e
    · exact hs_wordsLeft_ok (d := d + 2) e
    · cases e) ?_
  refine px_o1 (fun a h q e => by
    dsimp only at e
    split at e
    · exact hs_hasPerson_ok (d := d + 3) e
    · cases e) ?_
  refine px_o1 (fun a h q e => by
    dsimp only at e
    split at e
    · exact hs_unsaidOf_ok (d := d + 1) e
    · cases e) ?_
  exact px_o0)
set_option maxRecDepth 200000 in
theorem wu_exact_23_ok {d : Nat} : ∀ (h : pH) (q : Int32 × pH), wu_exact_23 h = some q → px_G (d + 4 + 1) (pX_RX10, prog_1_method_24_code, 9, (some .int)) 23 [none, none, none, none, none, none, none, none, none] [] h q := by
  intro h q e
  exact px_blk_ok (d := d + 4) (M := (pX_RX10, prog_1_method_24_code, 9, (some .int))) (C := wu_exact_orc) (code := wu_exact_code) (ld := []) (kl := []) (wu_exact_orc_ok) pX_ok_RX10 wu_exact_code_ok (px_k0) 83 23 _ _ h q e
set_option maxRecDepth 200000 in
theorem wu_exact_138_ok {d : Nat} {r48 : Int32 → Int32 → Int32 → Int32 → Int32 → Int32 → pH → pR} (hr48 : ∀ (x2 : Int32) (x3 : Int32) (x4 : Int32) (x5 : Int32) (x6 : Int32) (x7 : Int32) (h : pH) (q : Int32 × pH), r48 x2 x3 x4 x5 x6 x7 h = some q → px_G (d + 4 + 1) (pX_RX10, prog_1_method_24_code, 9, (some .int)) 48 [some (.inr (.inl 0)), none, some (.inl x2), some (.inl x3), some (.inl x4), some (.inl x5), some (.inl x6), some (.inl x7), none] [] h q) : ∀ (x2 : Int32) (x3 : Int32) (x4 : Int32) (x5 : Int32) (x6 : Int32) (x7 : Int32) (h : pH) (q : Int32 × pH), wu_exact_138 r48 x2 x3 x4 x5 x6 x7 h = some q → px_G (d + 4 + 1) (pX_RX10, prog_1_method_24_code, 9, (some .int)) 138 [some (.inr (.inl 0)), none, some (.inl x2), some (.inl x3), some (.inl x4), some (.inl x5), some (.inl x6), some (.inl x7), none] [] h q := by
  intro x2 x3 x4 x5 x6 x7 h q e
  exact px_blk_ok (d := d + 4) (M := (pX_RX10, prog_1_method_24_code, 9, (some .int))) (C := wu_exact_orc) (code := wu_exact_code) (ld := [48]) (kl := [(48, fun ls st h => px_if (px_fit [10, 0, 1, 1, 1, 1, 1, 1, 0] ls && px_fits [] st) (r48 (px_gi ls 2) (px_gi ls 3) (px_gi ls 4) (px_gi ls 5) (px_gi ls 6) (px_gi ls 7) h))]) (wu_exact_orc_ok) pX_ok_RX10 wu_exact_code_ok (px_k1 (px_ko (ts := [10, 0, 1, 1, 1, 1, 1, 1, 0]) (ss := []) fun ls st h q e => hr48 _ _ _ _ _ _ _ _ e) px_k0) 83 138 _ _ h q e
set_option maxRecDepth 200000 in
theorem wu_exact_136_ok {d : Nat} {r48 : Int32 → Int32 → Int32 → Int32 → Int32 → Int32 → pH → pR} (hr48 : ∀ (x2 : Int32) (x3 : Int32) (x4 : Int32) (x5 : Int32) (x6 : Int32) (x7 : Int32) (h : pH) (q : Int32 × pH), r48 x2 x3 x4 x5 x6 x7 h = some q → px_G (d + 4 + 1) (pX_RX10, prog_1_method_24_code, 9, (some .int)) 48 [some (.inr (.inl 0)), none, some (.inl x2), some (.inl x3), some (.inl x4), some (.inl x5), some (.inl x6), some (.inl x7), none] [] h q) : ∀ (x2 : Int32) (x3 : Int32) (x4 : Int32) (x6 : Int32) (x7 : Int32) (s0 : Int32) (h : pH) (q : Int32 × pH), wu_exact_136 r48 x2 x3 x4 x6 x7 s0 h = some q → px_G (d + 4 + 1) (pX_RX10, prog_1_method_24_code, 9, (some .int)) 136 [some (.inr (.inl 0)), none, some (.inl x2), some (.inl x3), some (.inl x4), none, some (.inl x6), some (.inl x7), none] [.inl s0] h q := by
  intro x2 x3 x4 x6 x7 s0 h q e
  exact px_blk_ok (d := d + 4) (M := (pX_RX10, prog_1_method_24_code, 9, (some .int))) (C := wu_exact_orc) (code := wu_exact_code) (ld := [138]) (kl := [(138, fun ls st h => px_if (px_fit [10, 0, 1, 1, 1, 1, 1, 1, 0] ls && px_fits [] st) (wu_exact_138 r48 (px_gi ls 2) (px_gi ls 3) (px_gi ls 4) (px_gi ls 5) (px_gi ls 6) (px_gi ls 7) h))]) (wu_exact_orc_ok) pX_ok_RX10 wu_exact_code_ok (px_k1 (px_ko (ts := [10, 0, 1, 1, 1, 1, 1, 1, 0]) (ss := []) fun ls st h q e => wu_exact_138_ok hr48 _ _ _ _ _ _ _ _ e) px_k0) 83 136 _ _ h q e
set_option maxRecDepth 200000 in
theorem wu_exact_129_ok {d : Nat} {r48 : Int32 → Int32 → Int32 → Int32 → Int32 → Int32 → pH → pR} (hr48 : ∀ (x2 : Int32) (x3 : Int32) (x4 : Int32) (x5 : Int32) (x6 : Int32) (x7 : Int32) (h : pH) (q : Int32 × pH), r48 x2 x3 x4 x5 x6 x7 h = some q → px_G (d + 4 + 1) (pX_RX10, prog_1_method_24_code, 9, (some .int)) 48 [some (.inr (.inl 0)), none, some (.inl x2), some (.inl x3), some (.inl x4), some (.inl x5), some (.inl x6), some (.inl x7), none] [] h q) : ∀ (x2 : Int32) (x3 : Int32) (x4 : Int32) (x6 : Int32) (x7 : Int32) (h : pH) (q : Int32 × pH), wu_exact_129 r48 x2 x3 x4 x6 x7 h = some q → px_G (d + 4 + 1) (pX_RX10, prog_1_method_24_code, 9, (some .int)) 129 [some (.inr (.inl 0)), none, some (.inl x2), some (.inl x3), some (.inl x4), none, some (.inl x6), some (.inl x7), none] [] h q := by
  intro x2 x3 x4 x6 x7 h q e
  exact px_blk_ok (d := d + 4) (M := (pX_RX10, prog_1_method_24_code, 9, (some .int))) (C := wu_exact_orc) (code := wu_exact_code) (ld := [136]) (kl := [(136, fun ls st h => px_if (px_fit [10, 0, 1, 1, 1, 0, 1, 1, 0] ls && px_fits [1] st) (wu_exact_136 r48 (px_gi ls 2) (px_gi ls 3) (px_gi ls 4) (px_gi ls 6) (px_gi ls 7) (px_si st 0) h))]) (wu_exact_orc_ok) pX_ok_RX10 wu_exact_code_ok (px_k1 (px_ko (ts := [10, 0, 1, 1, 1, 0, 1, 1, 0]) (ss := [1]) fun ls st h q e => wu_exact_136_ok hr48 _ _ _ _ _ _ _ _ e) px_k0) 83 129 _ _ h q e
set_option maxRecDepth 200000 in
theorem wu_exact_111_ok {d : Nat} {r48 : Int32 → Int32 → Int32 → Int32 → Int32 → Int32 → pH → pR} (hr48 : ∀ (x2 : Int32) (x3 : Int32) (x4 : Int32) (x5 : Int32) (x6 : Int32) (x7 : Int32) (h : pH) (q : Int32 × pH), r48 x2 x3 x4 x5 x6 x7 h = some q → px_G (d + 4 + 1) (pX_RX10, prog_1_method_24_code, 9, (some .int)) 48 [some (.inr (.inl 0)), none, some (.inl x2), some (.inl x3), some (.inl x4), some (.inl x5), some (.inl x6), some (.inl x7), none] [] h q) : ∀ (x2 : Int32) (x3 : Int32) (x5 : Int32) (x6 : Int32) (x7 : Int32) (x8 : Int32) (s0 : Int32) (h : pH) (q : Int32 × pH), wu_exact_111 r48 x2 x3 x5 x6 x7 x8 s0 h = some q → px_G (d + 4 + 1) (pX_RX10, prog_1_method_24_code, 9, (some .int)) 111 [some (.inr (.inl 0)), none, some (.inl x2), some (.inl x3), none, some (.inl x5), some (.inl x6), some (.inl x7), some (.inl x8)] [.inl s0] h q := by
  intro x2 x3 x5 x6 x7 x8 s0 h q e
  exact px_blk_ok (d := d + 4) (M := (pX_RX10, prog_1_method_24_code, 9, (some .int))) (C := wu_exact_orc) (code := wu_exact_code) (ld := [129, 136]) (kl := [(129, fun ls st h => px_if (px_fit [10, 0, 1, 1, 1, 0, 1, 1, 0] ls && px_fits [] st) (wu_exact_129 r48 (px_gi ls 2) (px_gi ls 3) (px_gi ls 4) (px_gi ls 6) (px_gi ls 7) h)), (136, fun ls st h => px_if (px_fit [10, 0, 1, 1, 1, 0, 1, 1, 0] ls && px_fits [1] st) (wu_exact_136 r48 (px_gi ls 2) (px_gi ls 3) (px_gi ls 4) (px_gi ls 6) (px_gi ls 7) (px_si st 0) h))]) (wu_exact_orc_ok) pX_ok_RX10 wu_exact_code_ok (px_k1 (px_ko (ts := [10, 0, 1, 1, 1, 0, 1, 1, 0]) (ss := []) fun ls st h q e => wu_exact_129_ok hr48 _ _ _ _ _ _ _ e) (px_k1 (px_ko (ts := [10, 0, 1, 1, 1, 0, 1, 1, 0]) (ss := [1]) fun ls st h q e => wu_exact_136_ok hr48 _ _ _ _ _ _ _ _ e) px_k0)) 83 111 _ _ h q e
set_option maxRecDepth 200000 in
theorem wu_exact_104_ok {d : Nat} {r48 : Int32 → Int32 → Int32 → Int32 → Int32 → Int32 → pH → pR} (hr48 : ∀ (x2 : Int32) (x3 : Int32) (x4 : Int32) (x5 : Int32) (x6 : Int32) (x7 : Int32) (h : pH) (q : Int32 × pH), r48 x2 x3 x4 x5 x6 x7 h = some q → px_G (d + 4 + 1) (pX_RX10, prog_1_method_24_code, 9, (some .int)) 48 [some (.inr (.inl 0)), none, some (.inl x2), some (.inl x3), some (.inl x4), some (.inl x5), some (.inl x6), some (.inl x7), none] [] h q) : ∀ (x2 : Int32) (x3 : Int32) (x5 : Int32) (x6 : Int32) (x7 : Int32) (x8 : Int32) (h : pH) (q : Int32 × pH), wu_exact_104 r48 x2 x3 x5 x6 x7 x8 h = some q → px_G (d + 4 + 1) (pX_RX10, prog_1_method_24_code, 9, (some .int)) 104 [some (.inr (.inl 0)), none, some (.inl x2), some (.inl x3), none, some (.inl x5), some (.inl x6), some (.inl x7), some (.inl x8)] [] h q := by
  intro x2 x3 x5 x6 x7 x8 h q e
  exact px_blk_ok (d := d + 4) (M := (pX_RX10, prog_1_method_24_code, 9, (some .int))) (C := wu_exact_orc) (code := wu_exact_code) (ld := [111]) (kl := [(111, fun ls st h => px_if (px_fit [10, 0, 1, 1, 0, 1, 1, 1, 1] ls && px_fits [1] st) (wu_exact_111 r48 (px_gi ls 2) (px_gi ls 3) (px_gi ls 5) (px_gi ls 6) (px_gi ls 7) (px_gi ls 8) (px_si st 0) h))]) (wu_exact_orc_ok) pX_ok_RX10 wu_exact_code_ok (px_k1 (px_ko (ts := [10, 0, 1, 1, 0, 1, 1, 1, 1]) (ss := [1]) fun ls st h q e => wu_exact_111_ok hr48 _ _ _ _ _ _ _ _ _ e) px_k0) 83 104 _ _ h q e
set_option maxRecDepth 200000 in
theorem wu_exact_48_ok {d : Nat} : ∀ (n : Nat) (x2 : Int32) (x3 : Int32) (x4 : Int32) (x5 : Int32) (x6 : Int32) (x7 : Int32) (h : pH) (q : Int32 × pH), wu_exact_48 n x2 x3 x4 x5 x6 x7 h = some q → px_G (d + 4 + 1) (pX_RX10, prog_1_method_24_code, 9, (some .int)) 48 [some (.inr (.inl 0)), none, some (.inl x2), some (.inl x3), some (.inl x4), some (.inl x5), some (.inl x6), some (.inl x7), none] [] h q := by
  intro n
  induction n with
  | zero =>
    intro x2 x3 x4 x5 x6 x7 h q e
    cases e
  | succ n ih =>
    intro x2 x3 x4 x5 x6 x7 h q e
    exact px_blk_ok (d := d + 4) (M := (pX_RX10, prog_1_method_24_code, 9, (some .int))) (C := wu_exact_orc) (code := wu_exact_code) (ld := [104, 111, 138]) (kl := [(104, fun ls st h => px_if (px_fit [10, 0, 1, 1, 0, 1, 1, 1, 1] ls && px_fits [] st) (wu_exact_104 (wu_exact_48 n) (px_gi ls 2) (px_gi ls 3) (px_gi ls 5) (px_gi ls 6) (px_gi ls 7) (px_gi ls 8) h)), (111, fun ls st h => px_if (px_fit [10, 0, 1, 1, 0, 1, 1, 1, 1] ls && px_fits [1] st) (wu_exact_111 (wu_exact_48 n) (px_gi ls 2) (px_gi ls 3) (px_gi ls 5) (px_gi ls 6) (px_gi ls 7) (px_gi ls 8) (px_si st 0) h)), (138, fun ls st h => px_if (px_fit [10, 0, 1, 1, 1, 1, 1, 1, 0] ls && px_fits [] st) (wu_exact_138 (wu_exact_48 n) (px_gi ls 2) (px_gi ls 3) (px_gi ls 4) (px_gi ls 5) (px_gi ls 6) (px_gi ls 7) h))]) (wu_exact_orc_ok) pX_ok_RX10 wu_exact_code_ok (px_k1 (px_ko (ts := [10, 0, 1, 1, 0, 1, 1, 1, 1]) (ss := []) fun ls st h q e => wu_exact_104_ok ih _ _ _ _ _ _ _ _ e) (px_k1 (px_ko (ts := [10, 0, 1, 1, 0, 1, 1, 1, 1]) (ss := [1]) fun ls st h q e => wu_exact_111_ok ih _ _ _ _ _ _ _ _ _ e) (px_k1 (px_ko (ts := [10, 0, 1, 1, 1, 1, 1, 1, 0]) (ss := []) fun ls st h q e => wu_exact_138_ok ih _ _ _ _ _ _ _ _ e) px_k0))) 83 48 _ _ h q e
set_option maxRecDepth 200000 in
theorem wu_exact_ok {d : Nat} {x1 : Int32} {x2 : Int32} {h : pH} {q : Int32 × pH} (e : wu_exact x1 x2 h = some q) : px_Con (d + 5) 142 [.inr (.inl 0), .inl x1, .inl x2] h q :=
  px_con (X := pX_RX10) (b := prog_1_method_24_code) (nL := 9) (rt := (some .int)) rfl rfl (Nat.le_of_ble_eq_true rfl) rfl (px_blk_ok (d := d + 4) (M := (pX_RX10, prog_1_method_24_code, 9, (some .int))) (C := wu_exact_orc) (code := wu_exact_code) (ld := [48, 23]) (kl := [(48, fun ls st h => px_if (px_fit [10, 0, 1, 1, 1, 1, 1, 1, 0] ls && px_fits [] st) (wu_exact_48 px_F (px_gi ls 2) (px_gi ls 3) (px_gi ls 4) (px_gi ls 5) (px_gi ls 6) (px_gi ls 7) h)), (23, fun ls st h => px_if (px_fit [0, 0, 0, 0, 0, 0, 0, 0, 0] ls && px_fits [] st) (wu_exact_23 h))]) (wu_exact_orc_ok) pX_ok_RX10 wu_exact_code_ok (px_k1 (px_ko (ts := [10, 0, 1, 1, 1, 1, 1, 1, 0]) (ss := []) fun ls st h q e => wu_exact_48_ok _ _ _ _ _ _ _ _ _ e) (px_k1 (px_ko (ts := [0, 0, 0, 0, 0, 0, 0, 0, 0]) (ss := []) fun ls st h q e => wu_exact_23_ok _ _ e) px_k0)) 83 0 _ _ _ q e)
/-! WordsUnsaid.chance(II)I -/
noncomputable def wu_chance_125 (r32 : Int32 → Int32 → Int32 → Int32 → Int32 → pH → pR) (r88 : Int32 → Int32 → Int32 → Int32 → Int32 → Int32 → Int32 → Int32 → pH → pR) (x4 : Int32) (x5 : Int32) (x6 : Int32) (x7 : Int32) (x8 : Int32) (x9 : Int32) (x10 : Int32) (x11 : Int32) (x12 : Int32) (h : pH) : pR :=
  if (px_c 10) = 0 then none else
  let y4_1 := (x4 * x12) / (px_c 10)
  r88 y4_1 x5 x6 (x7 + px_c 1) x8 x9 x10 (x11 + px_c 1) h
noncomputable def wu_chance_88 (r32 : Int32 → Int32 → Int32 → Int32 → Int32 → pH → pR) : Nat → Int32 → Int32 → Int32 → Int32 → Int32 → Int32 → Int32 → Int32 → pH → pR
  | 0, _, _, _, _, _, _, _, _, _ => none
  | n + 1, x4, x5, x6, x7, x8, x9, x10, x11, h =>
    if x10 ≤ x11 then
      r32 x4 x5 x6 x7 (x8 + px_c 1) h
    else
      px_bind (cr_oddsOfTen x9 x11 x7 h) fun z1 h2 =>
      if x6 ≤ z1 then
        wu_chance_125 r32 (wu_chance_88 r32 n) x4 x5 x6 x7 x8 x9 x10 x11 z1 h2
      else
        wu_chance_125 r32 (wu_chance_88 r32 n) x4 x7 z1 x7 x8 x9 x10 x11 z1 h2
noncomputable def wu_chance_32 : Nat → Int32 → Int32 → Int32 → Int32 → Int32 → pH → pR
  | 0, _, _, _, _, _, _ => none
  | n + 1, x4, x5, x6, x7, x8, h =>
    if (h 22 5) ≤ x8 then
      px_bind (tl_tell x5 h) fun _ h2 =>
      some (x4, h2)
    else
      px_bind (wu_at 23 x8 h) fun z3 h4 =>
      px_bind (wu_at 8 z3 h4) fun z5 h6 =>
      let y10_7 := px_min z5 ((h6 22 9) - x7)
      wu_chance_88 (wu_chance_32 n) px_F x4 x5 x6 x7 x8 z3 y10_7 (px_c 0) h6
noncomputable def wu_chance (x1 : Int32) (x2 : Int32) (h : pH) : pR :=
  px_bind (wu_embark x1 (px_c (-1)) x2 h) fun z1 h2 =>
  if 0 ≤ z1 then
    wu_chance_32 px_F (px_c 10000) (px_c (-1)) (px_c 10) (px_c 0) (px_c 0) h2
  else
    some (z1, h2)
def wu_chance_code : pCode := [(0, .aload_n 0, 1), (1, .iload_n 1, 1), (2, .iconst (-1), 1), (3, .iload_n 2, 1), (4, .invokevirtual 194, 3), (7, .istore_n 3, 1), (8, .iload_n 3, 1), (9, .ifCond .ge (5), 3), (12, .iload_n 3, 1), (13, .ireturn, 1), (14, .sipush (10000), 3), (17, .istore 4, 2), (19, .iconst (-1), 1), (20, .istore 5, 2), (22, .bipush (10), 2), (24, .istore 6, 2), (26, .iconst 0, 1), (27, .istore 7, 2), (29, .iconst 0, 1), (30, .istore 8, 2), (32, .iload 8, 2), (34, .aload_n 0, 1), (35, .getfield 42, 3), (38, .getfield 335, 3), (41, .if_icmp .ge (109), 3), (44, .aload_n 0, 1), (45, .getfield 42, 3), (48, .getfield 336, 3), (51, .iload 8, 2), (53, .invokestatic 124, 3), (56, .istore 9, 2), (58, .aload_n 0, 1), (59, .getfield 19, 3), (62, .getfield 157, 3), (65, .iload 9, 2), (67, .invokestatic 124, 3), (70, .aload_n 0, 1), (71, .getfield 42, 3), (74, .getfield 265, 3), (77, .iload 7, 2), (79, .isub, 1), (80, .invokestatic 275, 3), (83, .istore 10, 2), (85, .iconst 0, 1), (86, .istore 11, 2), (88, .iload 11, 2), (90, .iload 10, 2), (92, .if_icmp .ge (52), 3), (95, .aload_n 0, 1), (96, .getfield 42, 3), (99, .iload 9, 2), (101, .iload 11, 2), (103, .iload 7, 2), (105, .invokevirtual 339, 3), (108, .istore 12, 2), (110, .iload 12, 2), (112, .iload 6, 2), (114, .if_icmp .ge (11), 3), (117, .iload 12, 2), (119, .istore 6, 2), (121, .iload 7, 2), (123, .istore 5, 2), (125, .iload 4, 2), (127, .iload 12, 2), (129, .imul, 1), (130, .bipush (10), 2), (132, .idiv, 1), (133, .istore 4, 2), (135, .iinc 7 (1), 3), (138, .iinc 11 (1), 3), (141, .goto (-53), 3), (144, .iinc 8 (1), 3), (147, .goto (-115), 3), (150, .aload_n 0, 1), (151, .getfield 75, 3), (154, .iload 5, 2), (156, .invokevirtual 287, 3), (159, .iload 4, 2), (161, .ireturn, 1)]
set_option maxRecDepth 200000 in
theorem wu_chance_code_ok : px_code prog_1_method_25_code wu_chance_code = true := by decide +kernel
noncomputable def wu_chance_orc : pC := px_orc [(13, fun a h => match a with
    | [.inr (.inl 22), .inl v1, .inl v2, .inl v3] => cr_oddsOfTen v1 v2 v3 h
    | _ => none), (83, fun a h => match a with
    | [.inr (.inl 45), .inl v1] => tl_tell v1 h
    | _ => none), (158, fun a h => match a with
    | [.inr (.inl v0), .inl v1] => wu_at v0 v1 h
    | _ => none), (163, fun a h => match a with
    | [.inr (.inl 0), .inl v1, .inl v2, .inl v3] => wu_embark v1 v2 v3 h
    | _ => none)]
theorem wu_chance_orc_ok {d : Nat} : px_Or (d + 6) (wu_chance_orc) := px_orc_ok (by
  refine px_o1 (fun a h q e => by
    dsimp only at e
    split at e
    · exact cr_oddsOfTen_ok (d := d + 3) e
    · cases e) ?_
  refine px_o1 (fun a h q e => by
    dsimp only at e
    split at e
    · exact tl_tell_ok (d := d + 3) e
    · cases e) ?_
  refine px_o1 (fun a h q e => by
    dsimp only at e
    split at e
    · exact wu_at_ok (d := d + 5) e
    · cases e) ?_
  refine px_o1 (fun a h q e => by
    dsimp only at e
    split at e
    · exact wu_embark_ok (d := d + 0) e
    · cases e) ?_
  exact px_o0)
set_option maxRecDepth 200000 in
theorem wu_chance_125_ok {d : Nat} {r32 : Int32 → Int32 → Int32 → Int32 → Int32 → pH → pR} (hr32 : ∀ (x4 : Int32) (x5 : Int32) (x6 : Int32) (x7 : Int32) (x8 : Int32) (h : pH) (q : Int32 × pH), r32 x4 x5 x6 x7 x8 h = some q → px_G (d + 6 + 1) (pX_RX10, prog_1_method_25_code, 13, (some .int)) 32 [some (.inr (.inl 0)), none, none, none, some (.inl x4), some (.inl x5), some (.inl x6), some (.inl x7), some (.inl x8), none, none, none, none] [] h q) {r88 : Int32 → Int32 → Int32 → Int32 → Int32 → Int32 → Int32 → Int32 → pH → pR} (hr88 : ∀ (x4 : Int32) (x5 : Int32) (x6 : Int32) (x7 : Int32) (x8 : Int32) (x9 : Int32) (x10 : Int32) (x11 : Int32) (h : pH) (q : Int32 × pH), r88 x4 x5 x6 x7 x8 x9 x10 x11 h = some q → px_G (d + 6 + 1) (pX_RX10, prog_1_method_25_code, 13, (some .int)) 88 [some (.inr (.inl 0)), none, none, none, some (.inl x4), some (.inl x5), some (.inl x6), some (.inl x7), some (.inl x8), some (.inl x9), some (.inl x10), some (.inl x11), none] [] h q) : ∀ (x4 : Int32) (x5 : Int32) (x6 : Int32) (x7 : Int32) (x8 : Int32) (x9 : Int32) (x10 : Int32) (x11 : Int32) (x12 : Int32) (h : pH) (q : Int32 × pH), wu_chance_125 r32 r88 x4 x5 x6 x7 x8 x9 x10 x11 x12 h = some q → px_G (d + 6 + 1) (pX_RX10, prog_1_method_25_code, 13, (some .int)) 125 [some (.inr (.inl 0)), none, none, none, some (.inl x4), some (.inl x5), some (.inl x6), some (.inl x7), some (.inl x8), some (.inl x9), some (.inl x10), some (.inl x11), some (.inl x12)] [] h q := by
  intro x4 x5 x6 x7 x8 x9 x10 x11 x12 h q e
  exact px_blk_ok (d := d + 6) (M := (pX_RX10, prog_1_method_25_code, 13, (some .int))) (C := wu_chance_orc) (code := wu_chance_code) (ld := [88]) (kl := [(88, fun ls st h => px_if (px_fit [10, 0, 0, 0, 1, 1, 1, 1, 1, 1, 1, 1, 0] ls && px_fits [] st) (r88 (px_gi ls 4) (px_gi ls 5) (px_gi ls 6) (px_gi ls 7) (px_gi ls 8) (px_gi ls 9) (px_gi ls 10) (px_gi ls 11) h))]) (wu_chance_orc_ok) pX_ok_RX10 wu_chance_code_ok (px_k1 (px_ko (ts := [10, 0, 0, 0, 1, 1, 1, 1, 1, 1, 1, 1, 0]) (ss := []) fun ls st h q e => hr88 _ _ _ _ _ _ _ _ _ _ e) px_k0) 84 125 _ _ h q e
set_option maxRecDepth 200000 in
theorem wu_chance_88_ok {d : Nat} {r32 : Int32 → Int32 → Int32 → Int32 → Int32 → pH → pR} (hr32 : ∀ (x4 : Int32) (x5 : Int32) (x6 : Int32) (x7 : Int32) (x8 : Int32) (h : pH) (q : Int32 × pH), r32 x4 x5 x6 x7 x8 h = some q → px_G (d + 6 + 1) (pX_RX10, prog_1_method_25_code, 13, (some .int)) 32 [some (.inr (.inl 0)), none, none, none, some (.inl x4), some (.inl x5), some (.inl x6), some (.inl x7), some (.inl x8), none, none, none, none] [] h q) : ∀ (n : Nat) (x4 : Int32) (x5 : Int32) (x6 : Int32) (x7 : Int32) (x8 : Int32) (x9 : Int32) (x10 : Int32) (x11 : Int32) (h : pH) (q : Int32 × pH), wu_chance_88 r32 n x4 x5 x6 x7 x8 x9 x10 x11 h = some q → px_G (d + 6 + 1) (pX_RX10, prog_1_method_25_code, 13, (some .int)) 88 [some (.inr (.inl 0)), none, none, none, some (.inl x4), some (.inl x5), some (.inl x6), some (.inl x7), some (.inl x8), some (.inl x9), some (.inl x10), some (.inl x11), none] [] h q := by
  intro n
  induction n with
  | zero =>
    intro x4 x5 x6 x7 x8 x9 x10 x11 h q e
    cases e
  | succ n ih =>
    intro x4 x5 x6 x7 x8 x9 x10 x11 h q e
    exact px_blk_ok (d := d + 6) (M := (pX_RX10, prog_1_method_25_code, 13, (some .int))) (C := wu_chance_orc) (code := wu_chance_code) (ld := [32, 125]) (kl := [(32, fun ls st h => px_if (px_fit [10, 0, 0, 0, 1, 1, 1, 1, 1, 0, 0, 0, 0] ls && px_fits [] st) (r32 (px_gi ls 4) (px_gi ls 5) (px_gi ls 6) (px_gi ls 7) (px_gi ls 8) h)), (125, fun ls st h => px_if (px_fit [10, 0, 0, 0, 1, 1, 1, 1, 1, 1, 1, 1, 1] ls && px_fits [] st) (wu_chance_125 r32 (wu_chance_88 r32 n) (px_gi ls 4) (px_gi ls 5) (px_gi ls 6) (px_gi ls 7) (px_gi ls 8) (px_gi ls 9) (px_gi ls 10) (px_gi ls 11) (px_gi ls 12) h))]) (wu_chance_orc_ok) pX_ok_RX10 wu_chance_code_ok (px_k1 (px_ko (ts := [10, 0, 0, 0, 1, 1, 1, 1, 1, 0, 0, 0, 0]) (ss := []) fun ls st h q e => hr32 _ _ _ _ _ _ _ e) (px_k1 (px_ko (ts := [10, 0, 0, 0, 1, 1, 1, 1, 1, 1, 1, 1, 1]) (ss := []) fun ls st h q e => wu_chance_125_ok hr32 ih _ _ _ _ _ _ _ _ _ _ _ e) px_k0)) 84 88 _ _ h q e
set_option maxRecDepth 200000 in
theorem wu_chance_32_ok {d : Nat} : ∀ (n : Nat) (x4 : Int32) (x5 : Int32) (x6 : Int32) (x7 : Int32) (x8 : Int32) (h : pH) (q : Int32 × pH), wu_chance_32 n x4 x5 x6 x7 x8 h = some q → px_G (d + 6 + 1) (pX_RX10, prog_1_method_25_code, 13, (some .int)) 32 [some (.inr (.inl 0)), none, none, none, some (.inl x4), some (.inl x5), some (.inl x6), some (.inl x7), some (.inl x8), none, none, none, none] [] h q := by
  intro n
  induction n with
  | zero =>
    intro x4 x5 x6 x7 x8 h q e
    cases e
  | succ n ih =>
    intro x4 x5 x6 x7 x8 h q e
    exact px_blk_ok (d := d + 6) (M := (pX_RX10, prog_1_method_25_code, 13, (some .int))) (C := wu_chance_orc) (code := wu_chance_code) (ld := [88]) (kl := [(88, fun ls st h => px_if (px_fit [10, 0, 0, 0, 1, 1, 1, 1, 1, 1, 1, 1, 0] ls && px_fits [] st) (wu_chance_88 (wu_chance_32 n) px_F (px_gi ls 4) (px_gi ls 5) (px_gi ls 6) (px_gi ls 7) (px_gi ls 8) (px_gi ls 9) (px_gi ls 10) (px_gi ls 11) h))]) (wu_chance_orc_ok) pX_ok_RX10 wu_chance_code_ok (px_k1 (px_ko (ts := [10, 0, 0, 0, 1, 1, 1, 1, 1, 1, 1, 1, 0]) (ss := []) fun ls st h q e => wu_chance_88_ok ih _ _ _ _ _ _ _ _ _ _ _ e) px_k0) 84 32 _ _ h q e
set_option maxRecDepth 200000 in
theorem wu_chance_ok {d : Nat} {x1 : Int32} {x2 : Int32} {h : pH} {q : Int32 × pH} (e : wu_chance x1 x2 h = some q) : px_Con (d + 7) 143 [.inr (.inl 0), .inl x1, .inl x2] h q :=
  px_con (X := pX_RX10) (b := prog_1_method_25_code) (nL := 13) (rt := (some .int)) rfl rfl (Nat.le_of_ble_eq_true rfl) rfl (px_blk_ok (d := d + 6) (M := (pX_RX10, prog_1_method_25_code, 13, (some .int))) (C := wu_chance_orc) (code := wu_chance_code) (ld := [32]) (kl := [(32, fun ls st h => px_if (px_fit [10, 0, 0, 0, 1, 1, 1, 1, 1, 0, 0, 0, 0] ls && px_fits [] st) (wu_chance_32 px_F (px_gi ls 4) (px_gi ls 5) (px_gi ls 6) (px_gi ls 7) (px_gi ls 8) h))]) (wu_chance_orc_ok) pX_ok_RX10 wu_chance_code_ok (px_k1 (px_ko (ts := [10, 0, 0, 0, 1, 1, 1, 1, 1, 0, 0, 0, 0]) (ss := []) fun ls st h q e => wu_chance_32_ok _ _ _ _ _ _ _ _ e) px_k0) 84 0 _ _ _ q e)
/-! WordsUnsaid.party(I)I -/
noncomputable def wu_party_114 (r29 : Int32 → Int32 → Int32 → pH → pR) (r38 : Int32 → Int32 → Int32 → Int32 → pH → pR) (x1 : Int32) (x2 : Int32) (x3 : Int32) (x4 : Int32) (h : pH) : pR :=
  r38 x1 x2 x3 (x4 + px_c 1) h
noncomputable def wu_party_111 (r29 : Int32 → Int32 → Int32 → pH → pR) (r38 : Int32 → Int32 → Int32 → Int32 → pH → pR) (x1 : Int32) (x2 : Int32) (x3 : Int32) (x4 : Int32) (s0 : Int32) (s1 : Int32) (s2 : Int32) (h : pH) : pR :=
  px_bind (fl_pair s2 s1 s0 h) fun _ h2 =>
  wu_party_114 r29 r38 x1 x2 x3 x4 h2
noncomputable def wu_party_38 (r29 : Int32 → Int32 → Int32 → pH → pR) : Nat → Int32 → Int32 → Int32 → Int32 → pH → pR
  | 0, _, _, _, _, _ => none
  | n + 1, x1, x2, x3, x4, h =>
    if (px_c 6) ≤ x4 then
      r29 x1 x2 (x3 + px_c 1) h
    else
      px_bind (wu_has x1 x3 h) fun z1 h2 =>
      if z1 = 0 then
        wu_party_114 r29 (wu_party_38 r29 n) x1 x2 x3 x4 h2
      else
        px_bind (wu_has x1 x4 h2) fun z3 h4 =>
        if z3 = 0 then
          wu_party_114 r29 (wu_party_38 r29 n) x1 x2 x3 x4 h4
        else
          px_bind (cr_load (((px_c 1) <<< (x3 &&& 31)) ||| ((px_c 1) <<< (x4 &&& 31))) x2 ((px_c 1) - x2) h4) fun _ h6 =>
          px_bind (wk_start (px_c 3) h6) fun _ h8 =>
          px_bind (wk_findShortest h8) fun z9 h10 =>
          if z9 ≤ 0 then
            wu_party_111 r29 (wu_party_38 r29 n) x1 x2 x3 x4 (px_c 0) x4 x3 h10
          else
            wu_party_111 r29 (wu_party_38 r29 n) x1 x2 x3 x4 (px_c 1) x4 x3 h10
noncomputable def wu_party_29 : Nat → Int32 → Int32 → Int32 → pH → pR
  | 0, _, _, _, _ => none
  | n + 1, x1, x2, x3, h =>
    if (px_c 6) ≤ x3 then
      px_bind (fl_countBoats x1 h) fun z1 h2 =>
      if z1 ≤ (px_c 6) then
        px_bind (fl_tellBoats x1 h2) fun _ h4 =>
        some (z1, h4)
      else
        some (px_c (-2), h2)
    else
      wu_party_38 (wu_party_29 n) px_F x1 x2 x3 x3 h
noncomputable def wu_party_20 (x1 : Int32) (x2 : Int32) (h : pH) : pR :=
  px_bind (fl_clear h) fun _ h2 =>
  wu_party_29 px_F x1 x2 (px_c 0) h2
noncomputable def wu_party (x1 : Int32) (h : pH) : pR :=
  px_bind (hs_placeOfAll x1 h) fun z1 h2 =>
  if z1 = 0 then
    wu_party_20 x1 z1 h2
  else
    if z1 = (px_c 1) then
      wu_party_20 x1 z1 h2
    else
      some (px_c (-1), h2)
def wu_party_code : pCode := [(0, .aload_n 0, 1), (1, .getfield 19, 3), (4, .iload_n 1, 1), (5, .invokevirtual 342, 3), (8, .istore_n 2, 1), (9, .iload_n 2, 1), (10, .ifCond .eq (10), 3), (13, .iload_n 2, 1), (14, .iconst 1, 1), (15, .if_icmp .eq (5), 3), (18, .iconst (-1), 1), (19, .ireturn, 1), (20, .aload_n 0, 1), (21, .getfield 82, 3), (24, .invokevirtual 345, 3), (27, .iconst 0, 1), (28, .istore_n 3, 1), (29, .iload_n 3, 1), (30, .bipush (6), 2), (32, .if_icmp .ge (94), 3), (35, .iload_n 3, 1), (36, .istore 4, 2), (38, .iload 4, 2), (40, .bipush (6), 2), (42, .if_icmp .ge (78), 3), (45, .iload_n 1, 1), (46, .iload_n 3, 1), (47, .invokestatic 346, 3), (50, .ifCond .eq (64), 3), (53, .iload_n 1, 1), (54, .iload 4, 2), (56, .invokestatic 346, 3), (59, .ifCond .eq (55), 3), (62, .aload_n 0, 1), (63, .getfield 42, 3), (66, .iconst 1, 1), (67, .iload_n 3, 1), (68, .ishl, 1), (69, .iconst 1, 1), (70, .iload 4, 2), (72, .ishl, 1), (73, .ior, 1), (74, .iload_n 2, 1), (75, .iconst 1, 1), (76, .iload_n 2, 1), (77, .isub, 1), (78, .invokevirtual 349, 3), (81, .aload_n 0, 1), (82, .getfield 51, 3), (85, .iconst 3, 1), (86, .invokevirtual 289, 3), (89, .aload_n 0, 1), (90, .getfield 82, 3), (93, .iload_n 3, 1), (94, .iload 4, 2), (96, .aload_n 0, 1), (97, .getfield 51, 3), (100, .invokevirtual 292, 3), (103, .ifCond .le (7), 3), (106, .iconst 1, 1), (107, .goto (4), 3), (110, .iconst 0, 1), (111, .invokevirtual 353, 3), (114, .iinc 4 (1), 3), (117, .goto (-79), 3), (120, .iinc 3 (1), 3), (123, .goto (-94), 3), (126, .aload_n 0, 1), (127, .getfield 82, 3), (130, .iload_n 1, 1), (131, .invokevirtual 357, 3), (134, .istore_n 3, 1), (135, .iload_n 3, 1), (136, .bipush (6), 2), (138, .if_icmp .le (6), 3), (141, .bipush (-2), 2), (143, .ireturn, 1), (144, .aload_n 0, 1), (145, .getfield 82, 3), (148, .iload_n 1, 1), (149, .aload_n 0, 1), (150, .getfield 75, 3), (153, .invokevirtual 360, 3), (156, .iload_n 3, 1), (157, .ireturn, 1)]
set_option maxRecDepth 200000 in
theorem wu_party_code_ok : px_code prog_1_method_26_code wu_party_code = true := by decide +kernel
noncomputable def wu_party_orc : pC := px_orc [(15, fun a h => match a with
    | [.inr (.inl 47), .inl v1, .inl v2, .inl v3] => fl_pair v1 v2 v3 h
    | _ => none), (160, fun a h => match a with
    | [.inl v0, .inl v1] => wu_has v0 v1 h
    | _ => none), (6, fun a h => match a with
    | [.inr (.inl 22), .inl v1, .inl v2, .inl v3] => cr_load v1 v2 v3 h
    | _ => none), (100, fun a h => match a with
    | [.inr (.inl 25), .inl v1] => wk_start v1 h
    | _ => none), (113, fun a h => match a with
    | [.inr (.inl 25)] => wk_findShortest h
    | _ => none), (16, fun a h => match a with
    | [.inr (.inl 47), .inl v1] => fl_countBoats v1 h
    | _ => none), (18, fun a h => match a with
    | [.inr (.inl 47), .inl v1, .inr (.inl 45)] => fl_tellBoats v1 h
    | _ => none), (14, fun a h => match a with
    | [.inr (.inl 47)] => fl_clear h
    | _ => none), (29, fun a h => match a with
    | [.inr (.inl 3), .inl v1] => hs_placeOfAll v1 h
    | _ => none)]
theorem wu_party_orc_ok {d : Nat} : px_Or (d + 6) (wu_party_orc) := px_orc_ok (by
  refine px_o1 (fun a h q e => by
    dsimp only at e
    split at e
    · exact fl_pair_ok (d := d + 4) e
    · cases e) ?_
  refine px_o1 (fun a h q e => by
    dsimp only at e
    split at e
    · exact wu_has_ok (d := d + 5) e
    · cases e) ?_
  refine px_o1 (fun a h q e => by
    dsimp only at e
    split at e
    · exact cr_load_ok (d := d + 2) e
    · cases e) ?_
  refine px_o1 (fun a h q e => by
    dsimp only at e
    split at e
    · exact wk_start_ok (d := d + 2) e
    · cases e) ?_
  refine px_o1 (fun a h q e => by
    dsimp only at e
    split at e
    · exact wk_findShortest_ok (d := d + 0) e
    · cases e) ?_
  refine px_o1 (fun a h q e => by
    dsimp only at e
    split at e
    · exact fl_countBoats_ok (d := d + 3) e
    · cases e) ?_
  refine px_o1 (fun a h q e => by
    dsimp only at e
    split at e
    · exact fl_tellBoats_ok (d := d + 3) e
    · cases e) ?_
  refine px_o1 (fun a h q e => by
    dsimp only at e
    split at e
    · exact fl_clear_ok (d := d + 4) e
    · cases e) ?_
  refine px_o1 (fun a h q e => by
    dsimp only at e
    split at e
    · exact hs_placeOfAll_ok (d := d + 3) e
    · cases e) ?_
  exact px_o0)
set_option maxRecDepth 200000 in
theorem wu_party_114_ok {d : Nat} {r29 : Int32 → Int32 → Int32 → pH → pR} (hr29 : ∀ (x1 : Int32) (x2 : Int32) (x3 : Int32) (h : pH) (q : Int32 × pH), r29 x1 x2 x3 h = some q → px_G (d + 6 + 1) (pX_RX10, prog_1_method_26_code, 5, (some .int)) 29 [some (.inr (.inl 0)), some (.inl x1), some (.inl x2), some (.inl x3), none] [] h q) {r38 : Int32 → Int32 → Int32 → Int32 → pH → pR} (hr38 : ∀ (x1 : Int32) (x2 : Int32) (x3 : Int32) (x4 : Int32) (h : pH) (q : Int32 × pH), r38 x1 x2 x3 x4 h = some q → px_G (d + 6 + 1) (pX_RX10, prog_1_method_26_code, 5, (some .int)) 38 [some (.inr (.inl 0)), some (.inl x1), some (.inl x2), some (.inl x3), some (.inl x4)] [] h q) : ∀ (x1 : Int32) (x2 : Int32) (x3 : Int32) (x4 : Int32) (h : pH) (q : Int32 × pH), wu_party_114 r29 r38 x1 x2 x3 x4 h = some q → px_G (d + 6 + 1) (pX_RX10, prog_1_method_26_code, 5, (some .int)) 114 [some (.inr (.inl 0)), some (.inl x1), some (.inl x2), some (.inl x3), some (.inl x4)] [] h q := by
  intro x1 x2 x3 x4 h q e
  exact px_blk_ok (d := d + 6) (M := (pX_RX10, prog_1_method_26_code, 5, (some .int))) (C := wu_party_orc) (code := wu_party_code) (ld := [38]) (kl := [(38, fun ls st h => px_if (px_fit [10, 1, 1, 1, 1] ls && px_fits [] st) (r38 (px_gi ls 1) (px_gi ls 2) (px_gi ls 3) (px_gi ls 4) h))]) (wu_party_orc_ok) pX_ok_RX10 wu_party_code_ok (px_k1 (px_ko (ts := [10, 1, 1, 1, 1]) (ss := []) fun ls st h q e => hr38 _ _ _ _ _ _ e) px_k0) 90 114 _ _ h q e
set_option maxRecDepth 200000 in
theorem wu_party_111_ok {d : Nat} {r29 : Int32 → Int32 → Int32 → pH → pR} (hr29 : ∀ (x1 : Int32) (x2 : Int32) (x3 : Int32) (h : pH) (q : Int32 × pH), r29 x1 x2 x3 h = some q → px_G (d + 6 + 1) (pX_RX10, prog_1_method_26_code, 5, (some .int)) 29 [some (.inr (.inl 0)), some (.inl x1), some (.inl x2), some (.inl x3), none] [] h q) {r38 : Int32 → Int32 → Int32 → Int32 → pH → pR} (hr38 : ∀ (x1 : Int32) (x2 : Int32) (x3 : Int32) (x4 : Int32) (h : pH) (q : Int32 × pH), r38 x1 x2 x3 x4 h = some q → px_G (d + 6 + 1) (pX_RX10, prog_1_method_26_code, 5, (some .int)) 38 [some (.inr (.inl 0)), some (.inl x1), some (.inl x2), some (.inl x3), some (.inl x4)] [] h q) : ∀ (x1 : Int32) (x2 : Int32) (x3 : Int32) (x4 : Int32) (s0 : Int32) (s1 : Int32) (s2 : Int32) (h : pH) (q : Int32 × pH), wu_party_111 r29 r38 x1 x2 x3 x4 s0 s1 s2 h = some q → px_G (d + 6 + 1) (pX_RX10, prog_1_method_26_code, 5, (some .int)) 111 [some (.inr (.inl 0)), some (.inl x1), some (.inl x2), some (.inl x3), some (.inl x4)] [.inl s0, .inl s1, .inl s2, .inr (.inl 47)] h q := by
  intro x1 x2 x3 x4 s0 s1 s2 h q e
  exact px_blk_ok (d := d + 6) (M := (pX_RX10, prog_1_method_26_code, 5, (some .int))) (C := wu_party_orc) (code := wu_party_code) (ld := [114]) (kl := [(114, fun ls st h => px_if (px_fit [10, 1, 1, 1, 1] ls && px_fits [] st) (wu_party_114 r29 r38 (px_gi ls 1) (px_gi ls 2) (px_gi ls 3) (px_gi ls 4) h))]) (wu_party_orc_ok) pX_ok_RX10 wu_party_code_ok (px_k1 (px_ko (ts := [10, 1, 1, 1, 1]) (ss := []) fun ls st h q e => wu_party_114_ok hr29 hr38 _ _ _ _ _ _ e) px_k0) 90 111 _ _ h q e
set_option maxRecDepth 200000 in
theorem wu_party_38_ok {d : Nat} {r29 : Int32 → Int32 → Int32 → pH → pR} (hr29 : ∀ (x1 : Int32) (x2 : Int32) (x3 : Int32) (h : pH) (q : Int32 × pH), r29 x1 x2 x3 h = some q → px_G (d + 6 + 1) (pX_RX10, prog_1_method_26_code, 5, (some .int)) 29 [some (.inr (.inl 0)), some (.inl x1), some (.inl x2), some (.inl x3), none] [] h q) : ∀ (n : Nat) (x1 : Int32) (x2 : Int32) (x3 : Int32) (x4 : Int32) (h : pH) (q : Int32 × pH), wu_party_38 r29 n x1 x2 x3 x4 h = some q → px_G (d + 6 + 1) (pX_RX10, prog_1_method_26_code, 5, (some .int)) 38 [some (.inr (.inl 0)), some (.inl x1), some (.inl x2), some (.inl x3), some (.inl x4)] [] h q := by
  intro n
  induction n with
  | zero =>
    intro x1 x2 x3 x4 h q e
    cases e
  | succ n ih =>
    intro x1 x2 x3 x4 h q e
    exact px_blk_ok (d := d + 6) (M := (pX_RX10, prog_1_method_26_code, 5, (some .int))) (C := wu_party_orc) (code := wu_party_code) (ld := [29, 111, 114]) (kl := [(29, fun ls st h => px_if (px_fit [10, 1, 1, 1, 0] ls && px_fits [] st) (r29 (px_gi ls 1) (px_gi ls 2) (px_gi ls 3) h)), (111, fun ls st h => px_if (px_fit [10, 1, 1, 1, 1] ls && px_fits [1, 1, 1, 57] st) (wu_party_111 r29 (wu_party_38 r29 n) (px_gi ls 1) (px_gi ls 2) (px_gi ls 3) (px_gi ls 4) (px_si st 0) (px_si st 1) (px_si st 2) h)), (114, fun ls st h => px_if (px_fit [10, 1, 1, 1, 1] ls && px_fits [] st) (wu_party_114 r29 (wu_party_38 r29 n) (px_gi ls 1) (px_gi ls 2) (px_gi ls 3) (px_gi ls 4) h))]) (wu_party_orc_ok) pX_ok_RX10 wu_party_code_ok (px_k1 (px_ko (ts := [10, 1, 1, 1, 0]) (ss := []) fun ls st h q e => hr29 _ _ _ _ _ e) (px_k1 (px_ko (ts := [10, 1, 1, 1, 1]) (ss := [1, 1, 1, 57]) fun ls st h q e => wu_party_111_ok hr29 ih _ _ _ _ _ _ _ _ _ e) (px_k1 (px_ko (ts := [10, 1, 1, 1, 1]) (ss := []) fun ls st h q e => wu_party_114_ok hr29 ih _ _ _ _ _ _ e) px_k0))) 90 38 _ _ h q e
set_option maxRecDepth 200000 in
theorem wu_party_29_ok {d : Nat} : ∀ (n : Nat) (x1 : Int32) (x2 : Int32) (x3 : Int32) (h : pH) (q : Int32 × pH), wu_party_29 n x1 x2 x3 h = some q → px_G (d + 6 + 1) (pX_RX10, prog_1_method_26_code, 5, (some .int)) 29 [some (.inr (.inl 0)), some (.inl x1), some (.inl x2), some (.inl x3), none] [] h q := by
  intro n
  induction n with
  | zero =>
    intro x1 x2 x3 h q e
    cases e
  | succ n ih =>
    intro x1 x2 x3 h q e
    exact px_blk_ok (d := d + 6) (M := (pX_RX10, prog_1_method_26_code, 5, (some .int))) (C := wu_party_orc) (code := wu_party_code) (ld := [38]) (kl := [(38, fun ls st h => px_if (px_fit [10, 1, 1, 1, 1] ls && px_fits [] st) (wu_party_38 (wu_party_29 n) px_F (px_gi ls 1) (px_gi ls 2) (px_gi ls 3) (px_gi ls 4) h))]) (wu_party_orc_ok) pX_ok_RX10 wu_party_code_ok (px_k1 (px_ko (ts := [10, 1, 1, 1, 1]) (ss := []) fun ls st h q e => wu_party_38_ok ih _ _ _ _ _ _ _ e) px_k0) 90 29 _ _ h q e
set_option maxRecDepth 200000 in
theorem wu_party_20_ok {d : Nat} : ∀ (x1 : Int32) (x2 : Int32) (h : pH) (q : Int32 × pH), wu_party_20 x1 x2 h = some q → px_G (d + 6 + 1) (pX_RX10, prog_1_method_26_code, 5, (some .int)) 20 [some (.inr (.inl 0)), some (.inl x1), some (.inl x2), none, none] [] h q := by
  intro x1 x2 h q e
  exact px_blk_ok (d := d + 6) (M := (pX_RX10, prog_1_method_26_code, 5, (some .int))) (C := wu_party_orc) (code := wu_party_code) (ld := [29]) (kl := [(29, fun ls st h => px_if (px_fit [10, 1, 1, 1, 0] ls && px_fits [] st) (wu_party_29 px_F (px_gi ls 1) (px_gi ls 2) (px_gi ls 3) h))]) (wu_party_orc_ok) pX_ok_RX10 wu_party_code_ok (px_k1 (px_ko (ts := [10, 1, 1, 1, 0]) (ss := []) fun ls st h q e => wu_party_29_ok _ _ _ _ _ _ e) px_k0) 90 20 _ _ h q e
set_option maxRecDepth 200000 in
theorem wu_party_ok {d : Nat} {x1 : Int32} {h : pH} {q : Int32 × pH} (e : wu_party x1 h = some q) : px_Con (d + 7) 144 [.inr (.inl 0), .inl x1] h q :=
  px_con (X := pX_RX10) (b := prog_1_method_26_code) (nL := 5) (rt := (some .int)) rfl rfl (Nat.le_of_ble_eq_true rfl) rfl (px_blk_ok (d := d + 6) (M := (pX_RX10, prog_1_method_26_code, 5, (some .int))) (C := wu_party_orc) (code := wu_party_code) (ld := [20]) (kl := [(20, fun ls st h => px_if (px_fit [10, 1, 1, 0, 0] ls && px_fits [] st) (wu_party_20 (px_gi ls 1) (px_gi ls 2) h))]) (wu_party_orc_ok) pX_ok_RX10 wu_party_code_ok (px_k1 (px_ko (ts := [10, 1, 1, 0, 0]) (ss := []) fun ls st h q e => wu_party_20_ok _ _ _ _ e) px_k0) 90 0 _ _ _ q e)
/-! WordsUnsaid.pool(II)I -/
noncomputable def wu_pool_140 (x6 : Int32) (s0 : Int32) (s1 : Int32) (h : pH) : pR :=
  px_bind (tl_tell_ s1 s0 h) fun _ h2 =>
  some (x6, h2)
noncomputable def wu_pool_108 (r49 : Int32 → Int32 → Int32 → Int32 → Int32 → Int32 → pH → pR) (x1 : Int32) (x2 : Int32) (x4 : Int32) (x5 : Int32) (x6 : Int32) (x7 : Int32) (h : pH) : pR :=
  r49 x1 x2 x4 x5 x6 (x7 + px_c 1) h
noncomputable def wu_pool_49 : Nat → Int32 → Int32 → Int32 → Int32 → Int32 → Int32 → pH → pR
  | 0, _, _, _, _, _, _, _ => none
  | n + 1, x1, x2, x4, x5, x6, x7, h =>
    if (h 3 10) ≤ x7 then
      if x6 = (px_c (-1)) then
        some (px_c (-2), h)
      else
        if x4 = 0 then
          wu_pool_140 x6 (px_c (-1)) x5 h
        else
          wu_pool_140 x6 x4 x5 h
    else
      px_bind (cr_begin x1 x7 x2 h) fun z1 h2 =>
      if z1 = 0 then
        wu_pool_108 (wu_pool_49 n) x1 x2 x4 x5 x6 x7 h2
      else
        px_bind (wk_start (x5 - (px_c 1)) h2) fun _ h4 =>
        px_bind (wk_findShortest h4) fun z5 h6 =>
        if z5 ≤ 0 then
          wu_pool_108 (wu_pool_49 n) x1 x2 x4 x5 x6 x7 h6
        else
          wu_pool_108 (wu_pool_49 n) x1 x2 x4 z5 x7 x7 h6
noncomputable def wu_pool (x1 : Int32) (x2 : Int32) (h : pH) : pR :=
  px_bind (cr_begin x1 (px_c (-1)) x2 h) fun z1 h2 =>
  if z1 = 0 then
    some (px_c (-1), h2)
  else
    let y3_3 := h2 22 7
    px_bind (wk_start (px_c 3) h2) fun _ h5 =>
    px_bind (wk_findShortest h5) fun z6 h7 =>
    wu_pool_49 px_F x1 x2 z6 (px_c 4) (px_c (-1)) (px_c 0) h7
def wu_pool_code : pCode := [(0, .aload_n 0, 1), (1, .getfield 42, 3), (4, .iload_n 1, 1), (5, .iconst (-1), 1), (6, .iload_n 2, 1), (7, .invokevirtual 261, 3), (10, .ifCond .ne (5), 3), (13, .iconst (-1), 1), (14, .ireturn, 1), (15, .aload_n 0, 1), (16, .getfield 42, 3), (19, .getfield 313, 3), (22, .istore_n 3, 1), (23, .aload_n 0, 1), (24, .getfield 51, 3), (27, .iconst 3, 1), (28, .invokevirtual 289, 3), (31, .aload_n 0, 1), (32, .getfield 51, 3), (35, .invokevirtual 292, 3), (38, .istore 4, 2), (40, .iconst 4, 1), (41, .istore 5, 2), (43, .iconst (-1), 1), (44, .istore 6, 2), (46, .iconst 0, 1), (47, .istore 7, 2), (49, .iload 7, 2), (51, .aload_n 0, 1), (52, .getfield 19, 3), (55, .getfield 364, 3), (58, .if_icmp .ge (56), 3), (61, .aload_n 0, 1), (62, .getfield 42, 3), (65, .iload_n 1, 1), (66, .iload 7, 2), (68, .iload_n 2, 1), (69, .invokevirtual 261, 3), (72, .ifCond .eq (36), 3), (75, .aload_n 0, 1), (76, .getfield 51, 3), (79, .iload 5, 2), (81, .iconst 1, 1), (82, .isub, 1), (83, .invokevirtual 289, 3), (86, .aload_n 0, 1), (87, .getfield 51, 3), (90, .invokevirtual 292, 3), (93, .istore 8, 2), (95, .iload 8, 2), (97, .ifCond .le (11), 3), (100, .iload 8, 2), (102, .istore 5, 2), (104, .iload 7, 2), (106, .istore 6, 2), (108, .iinc 7 (1), 3), (111, .goto (-62), 3), (114, .iload 6, 2), (116, .iconst (-1), 1), (117, .if_icmp .ne (6), 3), (120, .bipush (-2), 2), (122, .ireturn, 1), (123, .aload_n 0, 1), (124, .getfield 75, 3), (127, .iload 5, 2), (129, .iload 4, 2), (131, .ifCond .ne (7), 3), (134, .iconst (-1), 1), (135, .goto (5), 3), (138, .iload 4, 2), (140, .invokevirtual 252, 3), (143, .iload 6, 2), (145, .ireturn, 1)]
set_option maxRecDepth 200000 in
theorem wu_pool_code_ok : px_code prog_1_method_27_code wu_pool_code = true := by decide +kernel
noncomputable def wu_pool_orc : pC := px_orc [(84, fun a h => match a with
    | [.inr (.inl 45), .inl v1, .inl v2] => tl_tell_ v1 v2 h
    | _ => none), (5, fun a h => match a with
    | [.inr (.inl 22), .inl v1, .inl v2, .inl v3] => cr_begin v1 v2 v3 h
    | _ => none), (100, fun a h => match a with
    | [.inr (.inl 25), .inl v1] => wk_start v1 h
    | _ => none), (113, fun a h => match a with
    | [.inr (.inl 25)] => wk_findShortest h
    | _ => none)]
theorem wu_pool_orc_ok {d : Nat} : px_Or (d + 6) (wu_pool_orc) := px_orc_ok (by
  refine px_o1 (fun a h q e => by
    dsimp only at e
    split at e
    · exact tl_tell__ok (d := d + 2) e
    · cases e) ?_
  refine px_o1 (fun a h q e => by
    dsimp only at e
    split at e
    · exact cr_begin_ok (d := d + 1) e
    · cases e) ?_
  refine px_o1 (fun a h q e => by
    dsimp only at e
    split at e
    · exact wk_start_ok (d := d + 2) e
    · cases e) ?_
  refine px_o1 (fun a h q e => by
    dsimp only at e
    split at e
    · exact wk_findShortest_ok (d := d + 0) e
    · cases e) ?_
  exact px_o0)
set_option maxRecDepth 200000 in
theorem wu_pool_140_ok {d : Nat} : ∀ (x6 : Int32) (s0 : Int32) (s1 : Int32) (h : pH) (q : Int32 × pH), wu_pool_140 x6 s0 s1 h = some q → px_G (d + 6 + 1) (pX_RX10, prog_1_method_27_code, 9, (some .int)) 140 [none, none, none, none, none, none, some (.inl x6), none, none] [.inl s0, .inl s1, .inr (.inl 45)] h q := by
  intro x6 s0 s1 h q e
  exact px_blk_ok (d := d + 6) (M := (pX_RX10, prog_1_method_27_code, 9, (some .int))) (C := wu_pool_orc) (code := wu_pool_code) (ld := []) (kl := []) (wu_pool_orc_ok) pX_ok_RX10 wu_pool_code_ok (px_k0) 78 140 _ _ h q e
set_option maxRecDepth 200000 in
theorem wu_pool_108_ok {d : Nat} {r49 : Int32 → Int32 → Int32 → Int32 → Int32 → Int32 → pH → pR} (hr49 : ∀ (x1 : Int32) (x2 : Int32) (x4 : Int32) (x5 : Int32) (x6 : Int32) (x7 : Int32) (h : pH) (q : Int32 × pH), r49 x1 x2 x4 x5 x6 x7 h = some q → px_G (d + 6 + 1) (pX_RX10, prog_1_method_27_code, 9, (some .int)) 49 [some (.inr (.inl 0)), some (.inl x1), some (.inl x2), none, some (.inl x4), some (.inl x5), some (.inl x6), some (.inl x7), none] [] h q) : ∀ (x1 : Int32) (x2 : Int32) (x4 : Int32) (x5 : Int32) (x6 : Int32) (x7 : Int32) (h : pH) (q : Int32 × pH), wu_pool_108 r49 x1 x2 x4 x5 x6 x7 h = some q → px_G (d + 6 + 1) (pX_RX10, prog_1_method_27_code, 9, (some .int)) 108 [some (.inr (.inl 0)), some (.inl x1), some (.inl x2), none, some (.inl x4), some (.inl x5), some (.inl x6), some (.inl x7), none] [] h q := by
  intro x1 x2 x4 x5 x6 x7 h q e
  exact px_blk_ok (d := d + 6) (M := (pX_RX10, prog_1_method_27_code, 9, (some .int))) (C := wu_pool_orc) (code := wu_pool_code) (ld := [49]) (kl := [(49, fun ls st h => px_if (px_fit [10, 1, 1, 0, 1, 1, 1, 1, 0] ls && px_fits [] st) (r49 (px_gi ls 1) (px_gi ls 2) (px_gi ls 4) (px_gi ls 5) (px_gi ls 6) (px_gi ls 7) h))]) (wu_pool_orc_ok) pX_ok_RX10 wu_pool_code_ok (px_k1 (px_ko (ts := [10, 1, 1, 0, 1, 1, 1, 1, 0]) (ss := []) fun ls st h q e => hr49 _ _ _ _ _ _ _ _ e) px_k0) 78 108 _ _ h q e
set_option maxRecDepth 200000 in
theorem wu_pool_49_ok {d : Nat} : ∀ (n : Nat) (x1 : Int32) (x2 : Int32) (x4 : Int32) (x5 : Int32) (x6 : Int32) (x7 : Int32) (h : pH) (q : Int32 × pH), wu_pool_49 n x1 x2 x4 x5 x6 x7 h = some q → px_G (d + 6 + 1) (pX_RX10, prog_1_method_27_code, 9, (some .int)) 49 [some (.inr (.inl 0)), some (.inl x1), some (.inl x2), none, some (.inl x4), some (.inl x5), some (.inl x6), some (.inl x7), none] [] h q := by
  intro n
  induction n with
  | zero =>
    intro x1 x2 x4 x5 x6 x7 h q e
    cases e
  | succ n ih =>
    intro x1 x2 x4 x5 x6 x7 h q e
    exact px_blk_ok (d := d + 6) (M := (pX_RX10, prog_1_method_27_code, 9, (some .int))) (C := wu_pool_orc) (code := wu_pool_code) (ld := [108, 140]) (kl := [(108, fun ls st h => px_if (px_fit [10, 1, 1, 0, 1, 1, 1, 1, 0] ls && px_fits [] st) (wu_pool_108 (wu_pool_49 n) (px_gi ls 1) (px_gi ls 2) (px_gi ls 4) (px_gi ls 5) (px_gi ls 6) (px_gi ls 7) h)), (140, fun ls st h => px_if (px_fit [0, 0, 0, 0, 0, 0, 1, 0, 0] ls && px_fits [1, 1, 55] st) (wu_pool_140 (px_gi ls 6) (px_si st 0) (px_si st 1) h))]) (wu_pool_orc_ok) pX_ok_RX10 wu_pool_code_ok (px_k1 (px_ko (ts := [10, 1, 1, 0, 1, 1, 1, 1, 0]) (ss := []) fun ls st h q e => wu_pool_108_ok ih _ _ _ _ _ _ _ _ e) (px_k1 (px_ko (ts := [0, 0, 0, 0, 0, 0, 1, 0, 0]) (ss := [1, 1, 55]) fun ls st h q e => wu_pool_140_ok _ _ _ _ _ e) px_k0)) 78 49 _ _ h q e
set_option maxRecDepth 200000 in
theorem wu_pool_ok {d : Nat} {x1 : Int32} {x2 : Int32} {h : pH} {q : Int32 × pH} (e : wu_pool x1 x2 h = some q) : px_Con (d + 7) 145 [.inr (.inl 0), .inl x1, .inl x2] h q :=
  px_con (X := pX_RX10) (b := prog_1_method_27_code) (nL := 9) (rt := (some .int)) rfl rfl (Nat.le_of_ble_eq_true rfl) rfl (px_blk_ok (d := d + 6) (M := (pX_RX10, prog_1_method_27_code, 9, (some .int))) (C := wu_pool_orc) (code := wu_pool_code) (ld := [49]) (kl := [(49, fun ls st h => px_if (px_fit [10, 1, 1, 0, 1, 1, 1, 1, 0] ls && px_fits [] st) (wu_pool_49 px_F (px_gi ls 1) (px_gi ls 2) (px_gi ls 4) (px_gi ls 5) (px_gi ls 6) (px_gi ls 7) h))]) (wu_pool_orc_ok) pX_ok_RX10 wu_pool_code_ok (px_k1 (px_ko (ts := [10, 1, 1, 0, 1, 1, 1, 1, 0]) (ss := []) fun ls st h q e => wu_pool_49_ok _ _ _ _ _ _ _ _ _ e) px_k0) 78 0 _ _ _ q e)
/-! WordsUnsaid.known(I)I -/
noncomputable def wu_known_98 (x2 : Int32) (s0 : Int32) (h : pH) : pR :=
  px_bind (tl_tell s0 h) fun _ h2 =>
  some (x2, h2)
noncomputable def wu_known_72 (r20 : Int32 → Int32 → Int32 → Int32 → pH → pR) (x1 : Int32) (x2 : Int32) (x3 : Int32) (x4 : Int32) (h : pH) : pR :=
  r20 x1 x2 x3 (x4 + px_c 1) h
noncomputable def wu_known_20 : Nat → Int32 → Int32 → Int32 → Int32 → pH → pR
  | 0, _, _, _, _, _ => none
  | n + 1, x1, x2, x3, x4, h =>
    if (h 3 10) ≤ x4 then
      px_bind (hs_peopleAt x1 h) fun z1 h2 =>
      if z1 = 0 then
        wu_known_98 x2 (px_c 0) h2
      else
        wu_known_98 x2 x3 h2
    else
      px_bind (wu_at 5 x4 h) fun z3 h4 =>
      if z3 = x1 then
        px_bind (hs_knownBy x4 h4) fun z5 h6 =>
        let y2_7 := x2 ||| z5
        px_bind (hs_knownBy x4 h6) fun z8 h9 =>
        let y3_10 := x3 &&& z8
        wu_known_72 (wu_known_20 n) x1 y2_7 y3_10 x4 h9
      else
        wu_known_72 (wu_known_20 n) x1 x2 x3 x4 h4
noncomputable def wu_known (x1 : Int32) (h : pH) : pR :=
  px_bind (rv_hasPlace x1 h) fun z1 h2 =>
  if z1 = 0 then
    some (px_c (-1), h2)
  else
    wu_known_20 px_F x1 (px_c 0) (px_c (-1)) (px_c 0) h2
def wu_known_code : pCode := [(0, .aload_n 0, 1), (1, .getfield 26, 3), (4, .iload_n 1, 1), (5, .invokevirtual 367, 3), (8, .ifCond .ne (5), 3), (11, .iconst (-1), 1), (12, .ireturn, 1), (13, .iconst 0, 1), (14, .istore_n 2, 1), (15, .iconst (-1), 1), (16, .istore_n 3, 1), (17, .iconst 0, 1), (18, .istore 4, 2), (20, .iload 4, 2), (22, .aload_n 0, 1), (23, .getfield 19, 3), (26, .getfield 364, 3), (29, .if_icmp .ge (49), 3), (32, .aload_n 0, 1), (33, .getfield 19, 3), (36, .getfield 128, 3), (39, .iload 4, 2), (41, .invokestatic 124, 3), (44, .iload_n 1, 1), (45, .if_icmp .ne (27), 3), (48, .iload_n 2, 1), (49, .aload_n 0, 1), (50, .getfield 19, 3), (53, .iload 4, 2), (55, .invokevirtual 135, 3), (58, .ior, 1), (59, .istore_n 2, 1), (60, .iload_n 3, 1), (61, .aload_n 0, 1), (62, .getfield 19, 3), (65, .iload 4, 2), (67, .invokevirtual 135, 3), (70, .iand, 1), (71, .istore_n 3, 1), (72, .iinc 4 (1), 3), (75, .goto (-55), 3), (78, .aload_n 0, 1), (79, .getfield 75, 3), (82, .aload_n 0, 1), (83, .getfield 19, 3), (86, .iload_n 1, 1), (87, .invokevirtual 370, 3), (90, .ifCond .ne (7), 3), (93, .iconst 0, 1), (94, .goto (4), 3), (97, .iload_n 3, 1), (98, .invokevirtual 287, 3), (101, .iload_n 2, 1), (102, .ireturn, 1)]
set_option maxRecDepth 200000 in
theorem wu_known_code_ok : px_code prog_1_method_28_code wu_known_code = true := by decide +kernel
noncomputable def wu_known_orc : pC := px_orc [(83, fun a h => match a with
    | [.inr (.inl 45), .inl v1] => tl_tell v1 h
    | _ => none), (27, fun a h => match a with
    | [.inr (.inl 3), .inl v1] => hs_peopleAt v1 h
    | _ => none), (158, fun a h => match a with
    | [.inr (.inl v0), .inl v1] => wu_at v0 v1 h
    | _ => none), (34, fun a h => match a with
    | [.inr (.inl 3), .inl v1] => hs_knownBy v1 h
    | _ => none), (62, fun a h => match a with
    | [.inr (.inl 14), .inl v1] => rv_hasPlace v1 h
    | _ => none)]
theorem wu_known_orc_ok {d : Nat} : px_Or (d + 3) (wu_known_orc) := px_orc_ok (by
  refine px_o1 (fun a h q e => by
    dsimp only at e
    split at e
    · exact tl_tell_ok (d := d + 0) e
    · cases e) ?_
  refine px_o1 (fun a h q e => by
    dsimp only at e
    split at e
    · exact hs_peopleAt_ok (d := d + 1) e
    · cases e) ?_
  refine px_o1 (fun a h q e => by
    dsimp only at e
    split at e
    · exact wu_at_ok (d := d + 2) e
    · cases e) ?_
  refine px_o1 (fun a h q e => by
    dsimp only at e
    split at e
    · exact hs_knownBy_ok (d := d + 1) e
    · cases e) ?_
  refine px_o1 (fun a h q e => by
    dsimp only at e
    split at e
    · exact rv_hasPlace_ok (d := d + 1) e
    · cases e) ?_
  exact px_o0)
set_option maxRecDepth 200000 in
theorem wu_known_98_ok {d : Nat} : ∀ (x2 : Int32) (s0 : Int32) (h : pH) (q : Int32 × pH), wu_known_98 x2 s0 h = some q → px_G (d + 3 + 1) (pX_RX10, prog_1_method_28_code, 5, (some .int)) 98 [none, none, some (.inl x2), none, none] [.inl s0, .inr (.inl 45)] h q := by
  intro x2 s0 h q e
  exact px_blk_ok (d := d + 3) (M := (pX_RX10, prog_1_method_28_code, 5, (some .int))) (C := wu_known_orc) (code := wu_known_code) (ld := []) (kl := []) (wu_known_orc_ok) pX_ok_RX10 wu_known_code_ok (px_k0) 59 98 _ _ h q e
set_option maxRecDepth 200000 in
theorem wu_known_72_ok {d : Nat} {r20 : Int32 → Int32 → Int32 → Int32 → pH → pR} (hr20 : ∀ (x1 : Int32) (x2 : Int32) (x3 : Int32) (x4 : Int32) (h : pH) (q : Int32 × pH), r20 x1 x2 x3 x4 h = some q → px_G (d + 3 + 1) (pX_RX10, prog_1_method_28_code, 5, (some .int)) 20 [some (.inr (.inl 0)), some (.inl x1), some (.inl x2), some (.inl x3), some (.inl x4)] [] h q) : ∀ (x1 : Int32) (x2 : Int32) (x3 : Int32) (x4 : Int32) (h : pH) (q : Int32 × pH), wu_known_72 r20 x1 x2 x3 x4 h = some q → px_G (d + 3 + 1) (pX_RX10, prog_1_method_28_code, 5, (some .int)) 72 [some (.inr (.inl 0)), some (.inl x1), some (.inl x2), some (.inl x3), some (.inl x4)] [] h q := by
  intro x1 x2 x3 x4 h q e
  exact px_blk_ok (d := d + 3) (M := (pX_RX10, prog_1_method_28_code, 5, (some .int))) (C := wu_known_orc) (code := wu_known_code) (ld := [20]) (kl := [(20, fun ls st h => px_if (px_fit [10, 1, 1, 1, 1] ls && px_fits [] st) (r20 (px_gi ls 1) (px_gi ls 2) (px_gi ls 3) (px_gi ls 4) h))]) (wu_known_orc_ok) pX_ok_RX10 wu_known_code_ok (px_k1 (px_ko (ts := [10, 1, 1, 1, 1]) (ss := []) fun ls st h q e => hr20 _ _ _ _ _ _ e) px_k0) 59 72 _ _ h q e
set_option maxRecDepth 200000 in
theorem wu_known_20_ok {d : Nat} : ∀ (n : Nat) (x1 : Int32) (x2 : Int32) (x3 : Int32) (x4 : Int32) (h : pH) (q : Int32 × pH), wu_known_20 n x1 x2 x3 x4 h = some q → px_G (d + 3 + 1) (pX_RX10, prog_1_method_28_code, 5, (some .int)) 20 [some (.inr (.inl 0)), some (.inl x1), some (.inl x2), some (.inl x3), some (.inl x4)] [] h q := by
  intro n
  induction n with
  | zero =>
    intro x1 x2 x3 x4 h q e
    cases e
  | succ n ih =>
    intro x1 x2 x3 x4 h q e
    exact px_blk_ok (d := d + 3) (M := (pX_RX10, prog_1_method_28_code, 5, (some .int))) (C := wu_known_orc) (code := wu_known_code) (ld := [72, 98]) (kl := [(72, fun ls st h => px_if (px_fit [10, 1, 1, 1, 1] ls && px_fits [] st) (wu_known_72 (wu_known_20 n) (px_gi ls 1) (px_gi ls 2) (px_gi ls 3) (px_gi ls 4) h)), (98, fun ls st h => px_if (px_fit [0, 0, 1, 0, 0] ls && px_fits [1, 55] st) (wu_known_98 (px_gi ls 2) (px_si st 0) h))]) (wu_known_orc_ok) pX_ok_RX10 wu_known_code_ok (px_k1 (px_ko (ts := [10, 1, 1, 1, 1]) (ss := []) fun ls st h q e => wu_known_72_ok ih _ _ _ _ _ _ e) (px_k1 (px_ko (ts := [0, 0, 1, 0, 0]) (ss := [1, 55]) fun ls st h q e => wu_known_98_ok _ _ _ _ e) px_k0)) 59 20 _ _ h q e
set_option maxRecDepth 200000 in
theorem wu_known_ok {d : Nat} {x1 : Int32} {h : pH} {q : Int32 × pH} (e : wu_known x1 h = some q) : px_Con (d + 4) 146 [.inr (.inl 0), .inl x1] h q :=
  px_con (X := pX_RX10) (b := prog_1_method_28_code) (nL := 5) (rt := (some .int)) rfl rfl (Nat.le_of_ble_eq_true rfl) rfl (px_blk_ok (d := d + 3) (M := (pX_RX10, prog_1_method_28_code, 5, (some .int))) (C := wu_known_orc) (code := wu_known_code) (ld := [20]) (kl := [(20, fun ls st h => px_if (px_fit [10, 1, 1, 1, 1] ls && px_fits [] st) (wu_known_20 px_F (px_gi ls 1) (px_gi ls 2) (px_gi ls 3) (px_gi ls 4) h))]) (wu_known_orc_ok) pX_ok_RX10 wu_known_code_ok (px_k1 (px_ko (ts := [10, 1, 1, 1, 1]) (ss := []) fun ls st h q e => wu_known_20_ok _ _ _ _ _ _ _ e) px_k0) 59 0 _ _ _ q e)
/-! WordsUnsaid.sayable(I)I -/
noncomputable def wu_sayable_68 (r20 : Int32 → Int32 → Int32 → Int32 → pH → pR) (x1 : Int32) (x2 : Int32) (x3 : Int32) (x4 : Int32) (h : pH) : pR :=
  r20 x1 x2 x3 (x4 + px_c 1) h
noncomputable def wu_sayable_20 : Nat → Int32 → Int32 → Int32 → Int32 → pH → pR
  | 0, _, _, _, _, _ => none
  | n + 1, x1, x2, x3, x4, h =>
    if (h 3 11) ≤ x4 then
      px_bind (tl_tell x3 h) fun _ h2 =>
      some (x2, h2)
    else
      px_bind (hs_whyNotSay x1 x4 h) fun z3 h4 =>
      if z3 = 0 then
        let y2_5 := x2 ||| ((px_c 1) <<< (x4 &&& 31))
        px_bind (hs_newTo x1 x4 h4) fun z6 h7 =>
        px_bind (jn_bitCount z6 h7) fun z8 h9 =>
        let y3_10 := x3 + z8
        wu_sayable_68 (wu_sayable_20 n) x1 y2_5 y3_10 x4 h9
      else
        wu_sayable_68 (wu_sayable_20 n) x1 x2 x3 x4 h4
noncomputable def wu_sayable (x1 : Int32) (h : pH) : pR :=
  px_bind (hs_hasPerson x1 h) fun z1 h2 =>
  if z1 = 0 then
    some (px_c (-1), h2)
  else
    wu_sayable_20 px_F x1 (px_c 0) (px_c 0) (px_c 0) h2
def wu_sayable_code : pCode := [(0, .aload_n 0, 1), (1, .getfield 19, 3), (4, .iload_n 1, 1), (5, .invokevirtual 110, 3), (8, .ifCond .ne (5), 3), (11, .iconst (-1), 1), (12, .ireturn, 1), (13, .iconst 0, 1), (14, .istore_n 2, 1), (15, .iconst 0, 1), (16, .istore_n 3, 1), (17, .iconst 0, 1), (18, .istore 4, 2), (20, .iload 4, 2), (22, .aload_n 0, 1), (23, .getfield 19, 3), (26, .getfield 187, 3), (29, .if_icmp .ge (45), 3), (32, .aload_n 0, 1), (33, .getfield 19, 3), (36, .iload_n 1, 1), (37, .iload 4, 2), (39, .invokevirtual 373, 3), (42, .ifCond .ne (26), 3), (45, .iload_n 2, 1), (46, .iconst 1, 1), (47, .iload 4, 2), (49, .ishl, 1), (50, .ior, 1), (51, .istore_n 2, 1), (52, .iload_n 3, 1), (53, .aload_n 0, 1), (54, .getfield 19, 3), (57, .iload_n 1, 1), (58, .iload 4, 2), (60, .invokevirtual 376, 3), (63, .invokestatic 330, 3), (66, .iadd, 1), (67, .istore_n 3, 1), (68, .iinc 4 (1), 3), (71, .goto (-51), 3), (74, .aload_n 0, 1), (75, .getfield 75, 3), (78, .iload_n 3, 1), (79, .invokevirtual 287, 3), (82, .iload_n 2, 1), (83, .ireturn, 1)]
set_option maxRecDepth 200000 in
theorem wu_sayable_code_ok : px_code prog_1_method_29_code wu_sayable_code = true := by decide +kernel
noncomputable def wu_sayable_orc : pC := px_orc [(83, fun a h => match a with
    | [.inr (.inl 45), .inl v1] => tl_tell v1 h
    | _ => none), (43, fun a h => match a with
    | [.inr (.inl 3), .inl v1, .inl v2] => hs_whyNotSay v1 v2 h
    | _ => none), (42, fun a h => match a with
    | [.inr (.inl 3), .inl v1, .inl v2] => hs_newTo v1 v2 h
    | _ => none), (279, fun a h => match a with
    | [.inl v0] => jn_bitCount v0 h
    | _ => none), (25, fun a h => match a with
    | [.inr (.inl 3), .inl v1] => hs_hasPerson v1 h
    | _ => none)]
theorem wu_sayable_orc_ok {d : Nat} : px_Or (d + 3) (wu_sayable_orc) := px_orc_ok (by
  refine px_o1 (fun a h q e => by
    dsimp only at e
    split at e
    · exact tl_tell_ok (d := d + 0) e
    · cases e) ?_
  refine px_o1 (fun a h q e => by
    dsimp only at e
    split at e
    · exact hs_whyNotSay_ok (d := d + 0) e
    · cases e) ?_
  refine px_o1 (fun a h q e => by
    dsimp only at e
    split at e
    · exact hs_newTo_ok (d := d + 0) e
    · cases e) ?_
  refine px_o1 (fun a h q e => by
    dsimp only at e
    split at e
    · exact jn_bitCount_ok (d := d + 2) e
    · cases e) ?_
  refine px_o1 (fun a h q e => by
    dsimp only at e
    split at e
    · exact hs_hasPerson_ok (d := d + 2) e
    · cases e) ?_
  exact px_o0)
set_option maxRecDepth 200000 in
theorem wu_sayable_68_ok {d : Nat} {r20 : Int32 → Int32 → Int32 → Int32 → pH → pR} (hr20 : ∀ (x1 : Int32) (x2 : Int32) (x3 : Int32) (x4 : Int32) (h : pH) (q : Int32 × pH), r20 x1 x2 x3 x4 h = some q → px_G (d + 3 + 1) (pX_RX10, prog_1_method_29_code, 5, (some .int)) 20 [some (.inr (.inl 0)), some (.inl x1), some (.inl x2), some (.inl x3), some (.inl x4)] [] h q) : ∀ (x1 : Int32) (x2 : Int32) (x3 : Int32) (x4 : Int32) (h : pH) (q : Int32 × pH), wu_sayable_68 r20 x1 x2 x3 x4 h = some q → px_G (d + 3 + 1) (pX_RX10, prog_1_method_29_code, 5, (some .int)) 68 [some (.inr (.inl 0)), some (.inl x1), some (.inl x2), some (.inl x3), some (.inl x4)] [] h q := by
  intro x1 x2 x3 x4 h q e
  exact px_blk_ok (d := d + 3) (M := (pX_RX10, prog_1_method_29_code, 5, (some .int))) (C := wu_sayable_orc) (code := wu_sayable_code) (ld := [20]) (kl := [(20, fun ls st h => px_if (px_fit [10, 1, 1, 1, 1] ls && px_fits [] st) (r20 (px_gi ls 1) (px_gi ls 2) (px_gi ls 3) (px_gi ls 4) h))]) (wu_sayable_orc_ok) pX_ok_RX10 wu_sayable_code_ok (px_k1 (px_ko (ts := [10, 1, 1, 1, 1]) (ss := []) fun ls st h q e => hr20 _ _ _ _ _ _ e) px_k0) 52 68 _ _ h q e
set_option maxRecDepth 200000 in
theorem wu_sayable_20_ok {d : Nat} : ∀ (n : Nat) (x1 : Int32) (x2 : Int32) (x3 : Int32) (x4 : Int32) (h : pH) (q : Int32 × pH), wu_sayable_20 n x1 x2 x3 x4 h = some q → px_G (d + 3 + 1) (pX_RX10, prog_1_method_29_code, 5, (some .int)) 20 [some (.inr (.inl 0)), some (.inl x1), some (.inl x2), some (.inl x3), some (.inl x4)] [] h q := by
  intro n
  induction n with
  | zero =>
    intro x1 x2 x3 x4 h q e
    cases e
  | succ n ih =>
    intro x1 x2 x3 x4 h q e
    exact px_blk_ok (d := d + 3) (M := (pX_RX10, prog_1_method_29_code, 5, (some .int))) (C := wu_sayable_orc) (code := wu_sayable_code) (ld := [68]) (kl := [(68, fun ls st h => px_if (px_fit [10, 1, 1, 1, 1] ls && px_fits [] st) (wu_sayable_68 (wu_sayable_20 n) (px_gi ls 1) (px_gi ls 2) (px_gi ls 3) (px_gi ls 4) h))]) (wu_sayable_orc_ok) pX_ok_RX10 wu_sayable_code_ok (px_k1 (px_ko (ts := [10, 1, 1, 1, 1]) (ss := []) fun ls st h q e => wu_sayable_68_ok ih _ _ _ _ _ _ e) px_k0) 52 20 _ _ h q e
set_option maxRecDepth 200000 in
theorem wu_sayable_ok {d : Nat} {x1 : Int32} {h : pH} {q : Int32 × pH} (e : wu_sayable x1 h = some q) : px_Con (d + 4) 147 [.inr (.inl 0), .inl x1] h q :=
  px_con (X := pX_RX10) (b := prog_1_method_29_code) (nL := 5) (rt := (some .int)) rfl rfl (Nat.le_of_ble_eq_true rfl) rfl (px_blk_ok (d := d + 3) (M := (pX_RX10, prog_1_method_29_code, 5, (some .int))) (C := wu_sayable_orc) (code := wu_sayable_code) (ld := [20]) (kl := [(20, fun ls st h => px_if (px_fit [10, 1, 1, 1, 1] ls && px_fits [] st) (wu_sayable_20 px_F (px_gi ls 1) (px_gi ls 2) (px_gi ls 3) (px_gi ls 4) h))]) (wu_sayable_orc_ok) pX_ok_RX10 wu_sayable_code_ok (px_k1 (px_ko (ts := [10, 1, 1, 1, 1]) (ss := []) fun ls st h q e => wu_sayable_20_ok _ _ _ _ _ _ _ e) px_k0) 52 0 _ _ _ q e)
/-! WordsUnsaid.apart()I -/
noncomputable def wu_apart (h : pH) : pR :=
  px_bind (hs_knownAt (px_c 0) h) fun z1 h2 =>
  px_bind (hs_knownAt (px_c 1) h2) fun z3 h4 =>
  px_bind (tl_tell_ (z1 &&& (z3 ^^^ (px_c (-1)))) (z3 &&& (z1 ^^^ (px_c (-1)))) h4) fun _ h6 =>
  some (z1 ^^^ z3, h6)
def wu_apart_code : pCode := [(0, .aload_n 0, 1), (1, .getfield 19, 3), (4, .iconst 0, 1), (5, .invokevirtual 379, 3), (8, .istore_n 1, 1), (9, .aload_n 0, 1), (10, .getfield 19, 3), (13, .iconst 1, 1), (14, .invokevirtual 379, 3), (17, .istore_n 2, 1), (18, .aload_n 0, 1), (19, .getfield 75, 3), (22, .iload_n 1, 1), (23, .iload_n 2, 1), (24, .iconst (-1), 1), (25, .ixor, 1), (26, .iand, 1), (27, .iload_n 2, 1), (28, .iload_n 1, 1), (29, .iconst (-1), 1), (30, .ixor, 1), (31, .iand, 1), (32, .invokevirtual 252, 3), (35, .iload_n 1, 1), (36, .iload_n 2, 1), (37, .ixor, 1), (38, .ireturn, 1)]
set_option maxRecDepth 200000 in
theorem wu_apart_code_ok : px_code prog_1_method_30_code wu_apart_code = true := by decide +kernel
noncomputable def wu_apart_orc : pC := px_orc [(35, fun a h => match a with
    | [.inr (.inl 3), .inl v1] => hs_knownAt v1 h
    | _ => none), (84, fun a h => match a with
    | [.inr (.inl 45), .inl v1, .inl v2] => tl_tell_ v1 v2 h
    | _ => none)]
theorem wu_apart_orc_ok {d : Nat} : px_Or (d + 4) (wu_apart_orc) := px_orc_ok (by
  refine px_o1 (fun a h q e => by
    dsimp only at e
    split at e
    · exact hs_knownAt_ok (d := d + 1) e
    · cases e) ?_
  refine px_o1 (fun a h q e => by
    dsimp only at e
    split at e
    · exact tl_tell__ok (d := d + 0) e
    · cases e) ?_
  exact px_o0)
set_option maxRecDepth 200000 in
theorem wu_apart_ok {d : Nat} {h : pH} {q : Int32 × pH} (e : wu_apart h = some q) : px_Con (d + 5) 148 [.inr (.inl 0)] h q :=
  px_con (X := pX_RX10) (b := prog_1_method_30_code) (nL := 3) (rt := (some .int)) rfl rfl (Nat.le_of_ble_eq_true rfl) rfl (px_blk_ok (d := d + 4) (M := (pX_RX10, prog_1_method_30_code, 3, (some .int))) (C := wu_apart_orc) (code := wu_apart_code) (ld := []) (kl := []) (wu_apart_orc_ok) pX_ok_RX10 wu_apart_code_ok (px_k0) 32 0 _ _ _ q e)
/-! WordsUnsaid.spared()I -/
noncomputable def wu_spared_49 (r6 : Int32 → Int32 → Int32 → pH → pR) (x1 : Int32) (x2 : Int32) (x3 : Int32) (h : pH) : pR :=
  r6 x1 x2 (x3 + px_c 1) h
noncomputable def wu_spared_44 (r6 : Int32 → Int32 → Int32 → pH → pR) (x3 : Int32) (x4 : Int32) (h : pH) : pR :=
  wu_spared_49 r6 x3 x4 x3 h
noncomputable def wu_spared_6 : Nat → Int32 → Int32 → Int32 → pH → pR
  | 0, _, _, _, _ => none
  | n + 1, x1, x2, x3, h =>
    if (h 3 10) ≤ x3 then
      if x1 = (px_c (-1)) then
        some (px_c (-2), h)
      else
        px_bind (tl_tell x2 h) fun _ h2 =>
        some (x1, h2)
    else
      px_bind (hs_knowersOfThingsAbout x3 h) fun z3 h4 =>
      if z3 = (px_c (-1)) then
        wu_spared_49 (wu_spared_6 n) x1 x2 x3 h4
      else
        if x1 = (px_c (-1)) then
          wu_spared_44 (wu_spared_6 n) x3 z3 h4
        else
          if x2 ≤ z3 then
            wu_spared_49 (wu_spared_6 n) x1 x2 x3 h4
          else
            wu_spared_44 (wu_spared_6 n) x3 z3 h4
noncomputable def wu_spared (h : pH) : pR :=
  wu_spared_6 px_F (px_c (-1)) (px_c 0) (px_c 0) h
def wu_spared_code : pCode := [(0, .iconst (-1), 1), (1, .istore_n 1, 1), (2, .iconst 0, 1), (3, .istore_n 2, 1), (4, .iconst 0, 1), (5, .istore_n 3, 1), (6, .iload_n 3, 1), (7, .aload_n 0, 1), (8, .getfield 19, 3), (11, .getfield 364, 3), (14, .if_icmp .ge (41), 3), (17, .aload_n 0, 1), (18, .getfield 19, 3), (21, .iload_n 3, 1), (22, .invokevirtual 382, 3), (25, .istore 4, 2), (27, .iload 4, 2), (29, .iconst (-1), 1), (30, .if_icmp .eq (19), 3), (33, .iload_n 1, 1), (34, .iconst (-1), 1), (35, .if_icmp .eq (9), 3), (38, .iload 4, 2), (40, .iload_n 2, 1), (41, .if_icmp .ge (8), 3), (44, .iload_n 3, 1), (45, .istore_n 1, 1), (46, .iload 4, 2), (48, .istore_n 2, 1), (49, .iinc 3 (1), 3), (52, .goto (-46), 3), (55, .iload_n 1, 1), (56, .iconst (-1), 1), (57, .if_icmp .ne (6), 3), (60, .bipush (-2), 2), (62, .ireturn, 1), (63, .aload_n 0, 1), (64, .getfield 75, 3), (67, .iload_n 2, 1), (68, .invokevirtual 287, 3), (71, .iload_n 1, 1), (72, .ireturn, 1)]
set_option maxRecDepth 200000 in
theorem wu_spared_code_ok : px_code prog_1_method_31_code wu_spared_code = true := by decide +kernel
noncomputable def wu_spared_orc : pC := px_orc [(83, fun a h => match a with
    | [.inr (.inl 45), .inl v1] => tl_tell v1 h
    | _ => none), (37, fun a h => match a with
    | [.inr (.inl 3), .inl v1] => hs_knowersOfThingsAbout v1 h
    | _ => none)]
theorem wu_spared_orc_ok {d : Nat} : px_Or (d + 3) (wu_spared_orc) := px_orc_ok (by
  refine px_o1 (fun a h q e => by
    dsimp only at e
    split at e
    · exact tl_tell_ok (d := d + 0) e
    · cases e) ?_
  refine px_o1 (fun a h q e => by
    dsimp only at e
    split at e
    · exact hs_knowersOfThingsAbout_ok (d := d + 1) e
    · cases e) ?_
  exact px_o0)
set_option maxRecDepth 200000 in
theorem wu_spared_49_ok {d : Nat} {r6 : Int32 → Int32 → Int32 → pH → pR} (hr6 : ∀ (x1 : Int32) (x2 : Int32) (x3 : Int32) (h : pH) (q : Int32 × pH), r6 x1 x2 x3 h = some q → px_G (d + 3 + 1) (pX_RX10, prog_1_method_31_code, 5, (some .int)) 6 [some (.inr (.inl 0)), some (.inl x1), some (.inl x2), some (.inl x3), none] [] h q) : ∀ (x1 : Int32) (x2 : Int32) (x3 : Int32) (h : pH) (q : Int32 × pH), wu_spared_49 r6 x1 x2 x3 h = some q → px_G (d + 3 + 1) (pX_RX10, prog_1_method_31_code, 5, (some .int)) 49 [some (.inr (.inl 0)), some (.inl x1), some (.inl x2), some (.inl x3), none] [] h q := by
  intro x1 x2 x3 h q e
  exact px_blk_ok (d := d + 3) (M := (pX_RX10, prog_1_method_31_code, 5, (some .int))) (C := wu_spared_orc) (code := wu_spared_code) (ld := [6]) (kl := [(6, fun ls st h => px_if (px_fit [10, 1, 1, 1, 0] ls && px_fits [] st) (r6 (px_gi ls 1) (px_gi ls 2) (px_gi ls 3) h))]) (wu_spared_orc_ok) pX_ok_RX10 wu_spared_code_ok (px_k1 (px_ko (ts := [10, 1, 1, 1, 0]) (ss := []) fun ls st h q e => hr6 _ _ _ _ _ e) px_k0) 47 49 _ _ h q e
set_option maxRecDepth 200000 in
theorem wu_spared_44_ok {d : Nat} {r6 : Int32 → Int32 → Int32 → pH → pR} (hr6 : ∀ (x1 : Int32) (x2 : Int32) (x3 : Int32) (h : pH) (q : Int32 × pH), r6 x1 x2 x3 h = some q → px_G (d + 3 + 1) (pX_RX10, prog_1_method_31_code, 5, (some .int)) 6 [some (.inr (.inl 0)), some (.inl x1), some (.inl x2), some (.inl x3), none] [] h q) : ∀ (x3 : Int32) (x4 : Int32) (h : pH) (q : Int32 × pH), wu_spared_44 r6 x3 x4 h = some q → px_G (d + 3 + 1) (pX_RX10, prog_1_method_31_code, 5, (some .int)) 44 [some (.inr (.inl 0)), none, none, some (.inl x3), some (.inl x4)] [] h q := by
  intro x3 x4 h q e
  exact px_blk_ok (d := d + 3) (M := (pX_RX10, prog_1_method_31_code, 5, (some .int))) (C := wu_spared_orc) (code := wu_spared_code) (ld := [49]) (kl := [(49, fun ls st h => px_if (px_fit [10, 1, 1, 1, 0] ls && px_fits [] st) (wu_spared_49 r6 (px_gi ls 1) (px_gi ls 2) (px_gi ls 3) h))]) (wu_spared_orc_ok) pX_ok_RX10 wu_spared_code_ok (px_k1 (px_ko (ts := [10, 1, 1, 1, 0]) (ss := []) fun ls st h q e => wu_spared_49_ok hr6 _ _ _ _ _ e) px_k0) 47 44 _ _ h q e
set_option maxRecDepth 200000 in
theorem wu_spared_6_ok {d : Nat} : ∀ (n : Nat) (x1 : Int32) (x2 : Int32) (x3 : Int32) (h : pH) (q : Int32 × pH), wu_spared_6 n x1 x2 x3 h = some q → px_G (d + 3 + 1) (pX_RX10, prog_1_method_31_code, 5, (some .int)) 6 [some (.inr (.inl 0)), some (.inl x1), some (.inl x2), some (.inl x3), none] [] h q := by
  intro n
  induction n with
  | zero =>
    intro x1 x2 x3 h q e
    cases e
  | succ n ih =>
    intro x1 x2 x3 h q e
    exact px_blk_ok (d := d + 3) (M := (pX_RX10, prog_1_method_31_code, 5, (some .int))) (C := wu_spared_orc) (code := wu_spared_code) (ld := [44, 49]) (kl := [(44, fun ls st h => px_if (px_fit [10, 0, 0, 1, 1] ls && px_fits [] st) (wu_spared_44 (wu_spared_6 n) (px_gi ls 3) (px_gi ls 4) h)), (49, fun ls st h => px_if (px_fit [10, 1, 1, 1, 0] ls && px_fits [] st) (wu_spared_49 (wu_spared_6 n) (px_gi ls 1) (px_gi ls 2) (px_gi ls 3) h))]) (wu_spared_orc_ok) pX_ok_RX10 wu_spared_code_ok (px_k1 (px_ko (ts := [10, 0, 0, 1, 1]) (ss := []) fun ls st h q e => wu_spared_44_ok ih _ _ _ _ e) (px_k1 (px_ko (ts := [10, 1, 1, 1, 0]) (ss := []) fun ls st h q e => wu_spared_49_ok ih _ _ _ _ _ e) px_k0)) 47 6 _ _ h q e
set_option maxRecDepth 200000 in
theorem wu_spared_ok {d : Nat} {h : pH} {q : Int32 × pH} (e : wu_spared h = some q) : px_Con (d + 4) 149 [.inr (.inl 0)] h q :=
  px_con (X := pX_RX10) (b := prog_1_method_31_code) (nL := 5) (rt := (some .int)) rfl rfl (Nat.le_of_ble_eq_true rfl) rfl (px_blk_ok (d := d + 3) (M := (pX_RX10, prog_1_method_31_code, 5, (some .int))) (C := wu_spared_orc) (code := wu_spared_code) (ld := [6]) (kl := [(6, fun ls st h => px_if (px_fit [10, 1, 1, 1, 0] ls && px_fits [] st) (wu_spared_6 px_F (px_gi ls 1) (px_gi ls 2) (px_gi ls 3) h))]) (wu_spared_orc_ok) pX_ok_RX10 wu_spared_code_ok (px_k1 (px_ko (ts := [10, 1, 1, 1, 0]) (ss := []) fun ls st h q e => wu_spared_6_ok _ _ _ _ _ _ e) px_k0) 47 0 _ _ _ q e)
/-! WordsUnsaid.endsOn(I)Z -/
noncomputable def wu_endsOn_49 (s0 : Int32) (h : pH) : pR :=
  px_bz s0 h
noncomputable def wu_endsOn_48 (h : pH) : pR :=
  wu_endsOn_49 (px_c 0) h
noncomputable def wu_endsOn (x1 : Int32) (h : pH) : pR :=
  px_bind (wk_isBurst h) fun z1 h2 =>
  if z1 = 0 then
    wu_endsOn_48 h2
  else
    px_bind (wk_crossed h2) fun z3 h4 =>
    px_bind (rv_landing (h2 22 7) (h2 22 8) z3 h4) fun z5 h6 =>
    if z5 = ((px_c 2) + x1) then
      wu_endsOn_49 (px_c 1) h6
    else
      wu_endsOn_48 h6
def wu_endsOn_code : pCode := [(0, .aload_n 0, 1), (1, .getfield 51, 3), (4, .invokevirtual 310, 3), (7, .ifCond .eq (41), 3), (10, .aload_n 0, 1), (11, .getfield 26, 3), (14, .aload_n 0, 1), (15, .getfield 42, 3), (18, .getfield 313, 3), (21, .aload_n 0, 1), (22, .getfield 42, 3), (25, .getfield 484, 3), (28, .aload_n 0, 1), (29, .getfield 51, 3), (32, .invokevirtual 485, 3), (35, .invokevirtual 487, 3), (38, .iconst 2, 1), (39, .iload_n 1, 1), (40, .iadd, 1), (41, .if_icmp .ne (7), 3), (44, .iconst 1, 1), (45, .goto (4), 3), (48, .iconst 0, 1), (49, .ireturn, 1)]
set_option maxRecDepth 200000 in
theorem wu_endsOn_code_ok : px_code prog_1_method_53_code wu_endsOn_code = true := by decide +kernel
noncomputable def wu_endsOn_orc : pC := px_orc [(112, fun a h => match a with
    | [.inr (.inl 25)] => wk_isBurst h
    | _ => none), (108, fun a h => match a with
    | [.inr (.inl 25)] => wk_crossed h
    | _ => none), (65, fun a h => match a with
    | [.inr (.inl 14), .inl v1, .inl v2, .inl v3] => rv_landing v1 v2 v3 h
    | _ => none)]
theorem wu_endsOn_orc_ok {d : Nat} : px_Or (d + 3) (wu_endsOn_orc) := px_orc_ok (by
  refine px_o1 (fun a h q e => by
    dsimp only at e
    split at e
    · exact wk_isBurst_ok (d := d + 0) e
    · cases e) ?_
  refine px_o1 (fun a h q e => by
    dsimp only at e
    split at e
    · exact wk_crossed_ok (d := d + 1) e
    · cases e) ?_
  refine px_o1 (fun a h q e => by
    dsimp only at e
    split at e
    · exact rv_landing_ok (d := d + 0) e
    · cases e) ?_
  exact px_o0)
set_option maxRecDepth 200000 in
theorem wu_endsOn_49_ok {d : Nat} : ∀ (s0 : Int32) (h : pH) (q : Int32 × pH), wu_endsOn_49 s0 h = some q → px_G (d + 3 + 1) (pX_RX10, prog_1_method_53_code, 2, (some .boolean)) 49 [none, none] [.inl s0] h q := by
  intro s0 h q e
  exact px_blk_ok (d := d + 3) (M := (pX_RX10, prog_1_method_53_code, 2, (some .boolean))) (C := wu_endsOn_orc) (code := wu_endsOn_code) (ld := []) (kl := []) (wu_endsOn_orc_ok) pX_ok_RX10 wu_endsOn_code_ok (px_k0) 29 49 _ _ h q e
set_option maxRecDepth 200000 in
theorem wu_endsOn_48_ok {d : Nat} : ∀ (h : pH) (q : Int32 × pH), wu_endsOn_48 h = some q → px_G (d + 3 + 1) (pX_RX10, prog_1_method_53_code, 2, (some .boolean)) 48 [none, none] [] h q := by
  intro h q e
  exact px_blk_ok (d := d + 3) (M := (pX_RX10, prog_1_method_53_code, 2, (some .boolean))) (C := wu_endsOn_orc) (code := wu_endsOn_code) (ld := [49]) (kl := [(49, fun ls st h => px_if (px_fit [0, 0] ls && px_fits [1] st) (wu_endsOn_49 (px_si st 0) h))]) (wu_endsOn_orc_ok) pX_ok_RX10 wu_endsOn_code_ok (px_k1 (px_ko (ts := [0, 0]) (ss := [1]) fun ls st h q e => wu_endsOn_49_ok _ _ _ e) px_k0) 29 48 _ _ h q e
set_option maxRecDepth 200000 in
theorem wu_endsOn_ok {d : Nat} {x1 : Int32} {h : pH} {q : Int32 × pH} (e : wu_endsOn x1 h = some q) : px_Con (d + 4) 171 [.inr (.inl 0), .inl x1] h q :=
  px_con (X := pX_RX10) (b := prog_1_method_53_code) (nL := 2) (rt := (some .boolean)) rfl rfl (Nat.le_of_ble_eq_true rfl) rfl (px_blk_ok (d := d + 3) (M := (pX_RX10, prog_1_method_53_code, 2, (some .boolean))) (C := wu_endsOn_orc) (code := wu_endsOn_code) (ld := [48, 49]) (kl := [(48, fun ls st h => px_if (px_fit [0, 0] ls && px_fits [] st) (wu_endsOn_48 h)), (49, fun ls st h => px_if (px_fit [0, 0] ls && px_fits [1] st) (wu_endsOn_49 (px_si st 0) h))]) (wu_endsOn_orc_ok) pX_ok_RX10 wu_endsOn_code_ok (px_k1 (px_ko (ts := [0, 0]) (ss := []) fun ls st h q e => wu_endsOn_48_ok _ _ e) (px_k1 (px_ko (ts := [0, 0]) (ss := [1]) fun ls st h q e => wu_endsOn_49_ok _ _ _ e) px_k0)) 29 0 _ _ _ q e)
/-! WordsUnsaid.leavesBank(I)Z -/
noncomputable def wu_leavesBank_54 (s0 : Int32) (h : pH) : pR :=
  px_bz s0 h
noncomputable def wu_leavesBank_53 (h : pH) : pR :=
  wu_leavesBank_54 (px_c 0) h
noncomputable def wu_leavesBank_34 (x1 : Int32) (x2 : Int32) (h : pH) : pR :=
  px_bind (cr_begin x1 (px_c (-1)) ((px_c 1) - x2) h) fun z1 h2 =>
  if z1 = 0 then
    wu_leavesBank_53 h2
  else
    wu_leavesBank_54 (px_c 1) h2
noncomputable def wu_leavesBank (x1 : Int32) (h : pH) : pR :=
  px_bind (hs_hasPerson x1 h) fun z1 h2 =>
  if z1 = 0 then
    px_bz (px_c 0) h2
  else
    px_bind (wu_at 5 x1 h2) fun z3 h4 =>
    if z3 = 0 then
      wu_leavesBank_34 x1 z3 h4
    else
      if z3 = (px_c 1) then
        wu_leavesBank_34 x1 z3 h4
      else
        wu_leavesBank_53 h4
def wu_leavesBank_code : pCode := [(0, .aload_n 0, 1), (1, .getfield 19, 3), (4, .iload_n 1, 1), (5, .invokevirtual 110, 3), (8, .ifCond .ne (5), 3), (11, .iconst 0, 1), (12, .ireturn, 1), (13, .aload_n 0, 1), (14, .getfield 19, 3), (17, .getfield 128, 3), (20, .iload_n 1, 1), (21, .invokestatic 124, 3), (24, .istore_n 2, 1), (25, .iload_n 2, 1), (26, .ifCond .eq (8), 3), (29, .iload_n 2, 1), (30, .iconst 1, 1), (31, .if_icmp .ne (22), 3), (34, .aload_n 0, 1), (35, .getfield 42, 3), (38, .iload_n 1, 1), (39, .iconst (-1), 1), (40, .iconst 1, 1), (41, .iload_n 2, 1), (42, .isub, 1), (43, .invokevirtual 261, 3), (46, .ifCond .eq (7), 3), (49, .iconst 1, 1), (50, .goto (4), 3), (53, .iconst 0, 1), (54, .ireturn, 1)]
set_option maxRecDepth 200000 in
theorem wu_leavesBank_code_ok : px_code prog_1_method_52_code wu_leavesBank_code = true := by decide +kernel
noncomputable def wu_leavesBank_orc : pC := px_orc [(5, fun a h => match a with
    | [.inr (.inl 22), .inl v1, .inl v2, .inl v3] => cr_begin v1 v2 v3 h
    | _ => none), (25, fun a h => match a with
    | [.inr (.inl 3), .inl v1] => hs_hasPerson v1 h
    | _ => none), (158, fun a h => match a with
    | [.inr (.inl v0), .inl v1] => wu_at v0 v1 h
    | _ => none)]
theorem wu_leavesBank_orc_ok {d : Nat} : px_Or (d + 5) (wu_leavesBank_orc) := px_orc_ok (by
  refine px_o1 (fun a h q e => by
    dsimp only at e
    split at e
    · exact cr_begin_ok (d := d + 0) e
    · cases e) ?_
  refine px_o1 (fun a h q e => by
    dsimp only at e
    split at e
    · exact hs_hasPerson_ok (d := d + 4) e
    · cases e) ?_
  refine px_o1 (fun a h q e => by
    dsimp only at e
    split at e
    · exact wu_at_ok (d := d + 4) e
    · cases e) ?_
  exact px_o0)
set_option maxRecDepth 200000 in
theorem wu_leavesBank_54_ok {d : Nat} : ∀ (s0 : Int32) (h : pH) (q : Int32 × pH), wu_leavesBank_54 s0 h = some q → px_G (d + 5 + 1) (pX_RX10, prog_1_method_52_code, 3, (some .boolean)) 54 [none, none, none] [.inl s0] h q := by
  intro s0 h q e
  exact px_blk_ok (d := d + 5) (M := (pX_RX10, prog_1_method_52_code, 3, (some .boolean))) (C := wu_leavesBank_orc) (code := wu_leavesBank_code) (ld := []) (kl := []) (wu_leavesBank_orc_ok) pX_ok_RX10 wu_leavesBank_code_ok (px_k0) 36 54 _ _ h q e
set_option maxRecDepth 200000 in
theorem wu_leavesBank_53_ok {d : Nat} : ∀ (h : pH) (q : Int32 × pH), wu_leavesBank_53 h = some q → px_G (d + 5 + 1) (pX_RX10, prog_1_method_52_code, 3, (some .boolean)) 53 [none, none, none] [] h q := by
  intro h q e
  exact px_blk_ok (d := d + 5) (M := (pX_RX10, prog_1_method_52_code, 3, (some .boolean))) (C := wu_leavesBank_orc) (code := wu_leavesBank_code) (ld := [54]) (kl := [(54, fun ls st h => px_if (px_fit [0, 0, 0] ls && px_fits [1] st) (wu_leavesBank_54 (px_si st 0) h))]) (wu_leavesBank_orc_ok) pX_ok_RX10 wu_leavesBank_code_ok (px_k1 (px_ko (ts := [0, 0, 0]) (ss := [1]) fun ls st h q e => wu_leavesBank_54_ok _ _ _ e) px_k0) 36 53 _ _ h q e
set_option maxRecDepth 200000 in
theorem wu_leavesBank_34_ok {d : Nat} : ∀ (x1 : Int32) (x2 : Int32) (h : pH) (q : Int32 × pH), wu_leavesBank_34 x1 x2 h = some q → px_G (d + 5 + 1) (pX_RX10, prog_1_method_52_code, 3, (some .boolean)) 34 [some (.inr (.inl 0)), some (.inl x1), some (.inl x2)] [] h q := by
  intro x1 x2 h q e
  exact px_blk_ok (d := d + 5) (M := (pX_RX10, prog_1_method_52_code, 3, (some .boolean))) (C := wu_leavesBank_orc) (code := wu_leavesBank_code) (ld := [53, 54]) (kl := [(53, fun ls st h => px_if (px_fit [0, 0, 0] ls && px_fits [] st) (wu_leavesBank_53 h)), (54, fun ls st h => px_if (px_fit [0, 0, 0] ls && px_fits [1] st) (wu_leavesBank_54 (px_si st 0) h))]) (wu_leavesBank_orc_ok) pX_ok_RX10 wu_leavesBank_code_ok (px_k1 (px_ko (ts := [0, 0, 0]) (ss := []) fun ls st h q e => wu_leavesBank_53_ok _ _ e) (px_k1 (px_ko (ts := [0, 0, 0]) (ss := [1]) fun ls st h q e => wu_leavesBank_54_ok _ _ _ e) px_k0)) 36 34 _ _ h q e
set_option maxRecDepth 200000 in
theorem wu_leavesBank_ok {d : Nat} {x1 : Int32} {h : pH} {q : Int32 × pH} (e : wu_leavesBank x1 h = some q) : px_Con (d + 6) 170 [.inr (.inl 0), .inl x1] h q :=
  px_con (X := pX_RX10) (b := prog_1_method_52_code) (nL := 3) (rt := (some .boolean)) rfl rfl (Nat.le_of_ble_eq_true rfl) rfl (px_blk_ok (d := d + 5) (M := (pX_RX10, prog_1_method_52_code, 3, (some .boolean))) (C := wu_leavesBank_orc) (code := wu_leavesBank_code) (ld := [34, 53]) (kl := [(34, fun ls st h => px_if (px_fit [10, 1, 1] ls && px_fits [] st) (wu_leavesBank_34 (px_gi ls 1) (px_gi ls 2) h)), (53, fun ls st h => px_if (px_fit [0, 0, 0] ls && px_fits [] st) (wu_leavesBank_53 h))]) (wu_leavesBank_orc_ok) pX_ok_RX10 wu_leavesBank_code_ok (px_k1 (px_ko (ts := [10, 1, 1]) (ss := []) fun ls st h q e => wu_leavesBank_34_ok _ _ _ _ e) (px_k1 (px_ko (ts := [0, 0, 0]) (ss := []) fun ls st h q e => wu_leavesBank_53_ok _ _ e) px_k0)) 36 0 _ _ _ q e)
/-! WordsUnsaid.ashore(II)I -/
noncomputable def wu_ashore_19 (h : pH) : pR :=
  some (px_c (-1), h)
noncomputable def wu_ashore_92 (x3 : Int32) (h : pH) : pR :=
  some (x3, h)
noncomputable def wu_ashore_86 (r41 : Int32 → Int32 → Int32 → pH → pR) (x2 : Int32) (x3 : Int32) (x4 : Int32) (h : pH) : pR :=
  r41 x2 x3 (x4 + px_c 1) h
noncomputable def wu_ashore_83 (r41 : Int32 → Int32 → Int32 → pH → pR) (x2 : Int32) (x3 : Int32) (x4 : Int32) (h : pH) : pR :=
  wu_ashore_86 r41 x2 (x3 + px_c 1) x4 h
noncomputable def wu_ashore_41 : Nat → Int32 → Int32 → Int32 → pH → pR
  | 0, _, _, _, _ => none
  | n + 1, x2, x3, x4, h =>
    if (px_k 1000000) ≤ x4 then
      wu_ashore_92 x3 h
    else
      px_bind (wk_next (px_c 1) h) fun z1 h2 =>
      if z1 = 0 then
        wu_ashore_92 x3 h2
      else
        px_bind (wu_endsOn x2 h2) fun z3 h4 =>
        if z3 = 0 then
          wu_ashore_86 (wu_ashore_41 n) x2 x3 x4 h4
        else
          if x3 = 0 then
            px_bind (wk_tellRow h4) fun _ h6 =>
            wu_ashore_83 (wu_ashore_41 n) x2 x3 x4 h6
          else
            wu_ashore_83 (wu_ashore_41 n) x2 x3 x4 h4
noncomputable def wu_ashore (x1 : Int32) (x2 : Int32) (h : pH) : pR :=
  px_bind (rv_hasIslet x2 h) fun z1 h2 =>
  if z1 = 0 then
    wu_ashore_19 h2
  else
    px_bind (wu_leavesBank x1 h2) fun z3 h4 =>
    if z3 = 0 then
      wu_ashore_19 h4
    else
      px_bind (tl_clear h4) fun _ h6 =>
      px_bind (wk_start (px_c 3) h6) fun _ h8 =>
      wu_ashore_41 px_F x2 (px_c 0) (px_c 0) h8
def wu_ashore_code : pCode := [(0, .aload_n 0, 1), (1, .getfield 26, 3), (4, .iload_n 2, 1), (5, .invokevirtual 177, 3), (8, .ifCond .eq (11), 3), (11, .aload_n 0, 1), (12, .iload_n 1, 1), (13, .invokevirtual 385, 3), (16, .ifCond .ne (5), 3), (19, .iconst (-1), 1), (20, .ireturn, 1), (21, .aload_n 0, 1), (22, .getfield 75, 3), (25, .invokevirtual 295, 3), (28, .iconst 0, 1), (29, .istore_n 3, 1), (30, .aload_n 0, 1), (31, .getfield 51, 3), (34, .iconst 3, 1), (35, .invokevirtual 289, 3), (38, .iconst 0, 1), (39, .istore 4, 2), (41, .iload 4, 2), (43, .ldc_w 302, 3), (46, .if_icmp .ge (46), 3), (49, .aload_n 0, 1), (50, .getfield 51, 3), (53, .iconst 1, 1), (54, .invokevirtual 303, 3), (57, .ifCond .eq (35), 3), (60, .aload_n 0, 1), (61, .iload_n 2, 1), (62, .invokevirtual 388, 3), (65, .ifCond .eq (21), 3), (68, .iload_n 3, 1), (69, .ifCond .ne (14), 3), (72, .aload_n 0, 1), (73, .getfield 51, 3), (76, .aload_n 0, 1), (77, .getfield 75, 3), (80, .invokevirtual 391, 3), (83, .iinc 3 (1), 3), (86, .iinc 4 (1), 3), (89, .goto (-48), 3), (92, .iload_n 3, 1), (93, .ireturn, 1)]
set_option maxRecDepth 200000 in
theorem wu_ashore_code_ok : px_code prog_1_method_32_code wu_ashore_code = true := by decide +kernel
noncomputable def wu_ashore_orc : pC := px_orc [(103, fun a h => match a with
    | [.inr (.inl 25), .inl v1] => wk_next v1 h
    | _ => none), (171, fun a h => match a with
    | [.inr (.inl 0), .inl v1] => wu_endsOn v1 h
    | _ => none), (116, fun a h => match a with
    | [.inr (.inl 25), .inr (.inl 45)] => wk_tellRow h
    | _ => none), (61, fun a h => match a with
    | [.inr (.inl 14), .inl v1] => rv_hasIslet v1 h
    | _ => none), (170, fun a h => match a with
    | [.inr (.inl 0), .inl v1] => wu_leavesBank v1 h
    | _ => none), (81, fun a h => match a with
    | [.inr (.inl 45)] => tl_clear h
    | _ => none), (100, fun a h => match a with
    | [.inr (.inl 25), .inl v1] => wk_start v1 h
    | _ => none)]
theorem wu_ashore_orc_ok {d : Nat} : px_Or (d + 6) (wu_ashore_orc) := px_orc_ok (by
  refine px_o1 (fun a h q e => by
    dsimp only at e
    split at e
    · exact wk_next_ok (d := d + 1) e
    · cases e) ?_
  refine px_o1 (fun a h q e => by
    dsimp only at e
    split at e
    · exact wu_endsOn_ok (d := d + 2) e
    · cases e) ?_
  refine px_o1 (fun a h q e => by
    dsimp only at e
    split at e
    · exact wk_tellRow_ok (d := d + 3) e
    · cases e) ?_
  refine px_o1 (fun a h q e => by
    dsimp only at e
    split at e
    · exact rv_hasIslet_ok (d := d + 5) e
    · cases e) ?_
  refine px_o1 (fun a h q e => by
    dsimp only at e
    split at e
    · exact wu_leavesBank_ok (d := d + 0) e
    · cases e) ?_
  refine px_o1 (fun a h q e => by
    dsimp only at e
    split at e
    · exact tl_clear_ok (d := d + 5) e
    · cases e) ?_
  refine px_o1 (fun a h q e => by
    dsimp only at e
    split at e
    · exact wk_start_ok (d := d + 2) e
    · cases e) ?_
  exact px_o0)
set_option maxRecDepth 200000 in
theorem wu_ashore_19_ok {d : Nat} : ∀ (h : pH) (q : Int32 × pH), wu_ashore_19 h = some q → px_G (d + 6 + 1) (pX_RX10, prog_1_method_32_code, 5, (some .int)) 19 [none, none, none, none, none] [] h q := by
  intro h q e
  exact px_blk_ok (d := d + 6) (M := (pX_RX10, prog_1_method_32_code, 5, (some .int))) (C := wu_ashore_orc) (code := wu_ashore_code) (ld := []) (kl := []) (wu_ashore_orc_ok) pX_ok_RX10 wu_ashore_code_ok (px_k0) 51 19 _ _ h q e
set_option maxRecDepth 200000 in
theorem wu_ashore_92_ok {d : Nat} : ∀ (x3 : Int32) (h : pH) (q : Int32 × pH), wu_ashore_92 x3 h = some q → px_G (d + 6 + 1) (pX_RX10, prog_1_method_32_code, 5, (some .int)) 92 [none, none, none, some (.inl x3), none] [] h q := by
  intro x3 h q e
  exact px_blk_ok (d := d + 6) (M := (pX_RX10, prog_1_method_32_code, 5, (some .int))) (C := wu_ashore_orc) (code := wu_ashore_code) (ld := []) (kl := []) (wu_ashore_orc_ok) pX_ok_RX10 wu_ashore_code_ok (px_k0) 51 92 _ _ h q e
set_option maxRecDepth 200000 in
theorem wu_ashore_86_ok {d : Nat} {r41 : Int32 → Int32 → Int32 → pH → pR} (hr41 : ∀ (x2 : Int32) (x3 : Int32) (x4 : Int32) (h : pH) (q : Int32 × pH), r41 x2 x3 x4 h = some q → px_G (d + 6 + 1) (pX_RX10, prog_1_method_32_code, 5, (some .int)) 41 [some (.inr (.inl 0)), none, some (.inl x2), some (.inl x3), some (.inl x4)] [] h q) : ∀ (x2 : Int32) (x3 : Int32) (x4 : Int32) (h : pH) (q : Int32 × pH), wu_ashore_86 r41 x2 x3 x4 h = some q → px_G (d + 6 + 1) (pX_RX10, prog_1_method_32_code, 5, (some .int)) 86 [some (.inr (.inl 0)), none, some (.inl x2), some (.inl x3), some (.inl x4)] [] h q := by
  intro x2 x3 x4 h q e
  exact px_blk_ok (d := d + 6) (M := (pX_RX10, prog_1_method_32_code, 5, (some .int))) (C := wu_ashore_orc) (code := wu_ashore_code) (ld := [41]) (kl := [(41, fun ls st h => px_if (px_fit [10, 0, 1, 1, 1] ls && px_fits [] st) (r41 (px_gi ls 2) (px_gi ls 3) (px_gi ls 4) h))]) (wu_ashore_orc_ok) pX_ok_RX10 wu_ashore_code_ok (px_k1 (px_ko (ts := [10, 0, 1, 1, 1]) (ss := []) fun ls st h q e => hr41 _ _ _ _ _ e) px_k0) 51 86 _ _ h q e
set_option maxRecDepth 200000 in
theorem wu_ashore_83_ok {d : Nat} {r41 : Int32 → Int32 → Int32 → pH → pR} (hr41 : ∀ (x2 : Int32) (x3 : Int32) (x4 : Int32) (h : pH) (q : Int32 × pH), r41 x2 x3 x4 h = some q → px_G (d + 6 + 1) (pX_RX10, prog_1_method_32_code, 5, (some .int)) 41 [some (.inr (.inl 0)), none, some (.inl x2), some (.inl x3), some (.inl x4)] [] h q) : ∀ (x2 : Int32) (x3 : Int32) (x4 : Int32) (h : pH) (q : Int32 × pH), wu_ashore_83 r41 x2 x3 x4 h = some q → px_G (d + 6 + 1) (pX_RX10, prog_1_method_32_code, 5, (some .int)) 83 [some (.inr (.inl 0)), none, some (.inl x2), some (.inl x3), some (.inl x4)] [] h q := by
  intro x2 x3 x4 h q e
  exact px_blk_ok (d := d + 6) (M := (pX_RX10, prog_1_method_32_code, 5, (some .int))) (C := wu_ashore_orc) (code := wu_ashore_code) (ld := [86]) (kl := [(86, fun ls st h => px_if (px_fit [10, 0, 1, 1, 1] ls && px_fits [] st) (wu_ashore_86 r41 (px_gi ls 2) (px_gi ls 3) (px_gi ls 4) h))]) (wu_ashore_orc_ok) pX_ok_RX10 wu_ashore_code_ok (px_k1 (px_ko (ts := [10, 0, 1, 1, 1]) (ss := []) fun ls st h q e => wu_ashore_86_ok hr41 _ _ _ _ _ e) px_k0) 51 83 _ _ h q e
set_option maxRecDepth 200000 in
theorem wu_ashore_41_ok {d : Nat} : ∀ (n : Nat) (x2 : Int32) (x3 : Int32) (x4 : Int32) (h : pH) (q : Int32 × pH), wu_ashore_41 n x2 x3 x4 h = some q → px_G (d + 6 + 1) (pX_RX10, prog_1_method_32_code, 5, (some .int)) 41 [some (.inr (.inl 0)), none, some (.inl x2), some (.inl x3), some (.inl x4)] [] h q := by
  intro n
  induction n with
  | zero =>
    intro x2 x3 x4 h q e
    cases e
  | succ n ih =>
    intro x2 x3 x4 h q e
    exact px_blk_ok (d := d + 6) (M := (pX_RX10, prog_1_method_32_code, 5, (some .int))) (C := wu_ashore_orc) (code := wu_ashore_code) (ld := [83, 86, 92]) (kl := [(83, fun ls st h => px_if (px_fit [10, 0, 1, 1, 1] ls && px_fits [] st) (wu_ashore_83 (wu_ashore_41 n) (px_gi ls 2) (px_gi ls 3) (px_gi ls 4) h)), (86, fun ls st h => px_if (px_fit [10, 0, 1, 1, 1] ls && px_fits [] st) (wu_ashore_86 (wu_ashore_41 n) (px_gi ls 2) (px_gi ls 3) (px_gi ls 4) h)), (92, fun ls st h => px_if (px_fit [0, 0, 0, 1, 0] ls && px_fits [] st) (wu_ashore_92 (px_gi ls 3) h))]) (wu_ashore_orc_ok) pX_ok_RX10 wu_ashore_code_ok (px_k1 (px_ko (ts := [10, 0, 1, 1, 1]) (ss := []) fun ls st h q e => wu_ashore_83_ok ih _ _ _ _ _ e) (px_k1 (px_ko (ts := [10, 0, 1, 1, 1]) (ss := []) fun ls st h q e => wu_ashore_86_ok ih _ _ _ _ _ e) (px_k1 (px_ko (ts := [0, 0, 0, 1, 0]) (ss := []) fun ls st h q e => wu_ashore_92_ok _ _ _ e) px_k0))) 51 41 _ _ h q e
set_option maxRecDepth 200000 in
theorem wu_ashore_ok {d : Nat} {x1 : Int32} {x2 : Int32} {h : pH} {q : Int32 × pH} (e : wu_ashore x1 x2 h = some q) : px_Con (d + 7) 150 [.inr (.inl 0), .inl x1, .inl x2] h q :=
  px_con (X := pX_RX10) (b := prog_1_method_32_code) (nL := 5) (rt := (some .int)) rfl rfl (Nat.le_of_ble_eq_true rfl) rfl (px_blk_ok (d := d + 6) (M := (pX_RX10, prog_1_method_32_code, 5, (some .int))) (C := wu_ashore_orc) (code := wu_ashore_code) (ld := [41, 19]) (kl := [(41, fun ls st h => px_if (px_fit [10, 0, 1, 1, 1] ls && px_fits [] st) (wu_ashore_41 px_F (px_gi ls 2) (px_gi ls 3) (px_gi ls 4) h)), (19, fun ls st h => px_if (px_fit [0, 0, 0, 0, 0] ls && px_fits [] st) (wu_ashore_19 h))]) (wu_ashore_orc_ok) pX_ok_RX10 wu_ashore_code_ok (px_k1 (px_ko (ts := [10, 0, 1, 1, 1]) (ss := []) fun ls st h q e => wu_ashore_41_ok _ _ _ _ _ _ e) (px_k1 (px_ko (ts := [0, 0, 0, 0, 0]) (ss := []) fun ls st h q e => wu_ashore_19_ok _ _ e) px_k0)) 51 0 _ _ _ q e)
/-! WordsUnsaid.about(II)I -/
noncomputable def wu_about_19 (h : pH) : pR :=
  some (px_c (-1), h)
noncomputable def wu_about_77 (h : pH) : pR :=
  px_bind (wk_tellCounts h) fun z1 h2 =>
  some (z1, h2)
noncomputable def wu_about_71 (r38 : Int32 → Int32 → pH → pR) (x2 : Int32) (x3 : Int32) (h : pH) : pR :=
  r38 x2 (x3 + px_c 1) h
noncomputable def wu_about_38 : Nat → Int32 → Int32 → pH → pR
  | 0, _, _, _ => none
  | n + 1, x2, x3, h =>
    if (px_k 1000000) ≤ x3 then
      wu_about_77 h
    else
      px_bind (wk_next (px_c 1) h) fun z1 h2 =>
      if z1 = 0 then
        wu_about_77 h2
      else
        px_bind (wu_endsOn x2 h2) fun z3 h4 =>
        if z3 = 0 then
          wu_about_71 (wu_about_38 n) x2 x3 h4
        else
          px_bind (wk_countSaid h4) fun _ h6 =>
          wu_about_71 (wu_about_38 n) x2 x3 h6
noncomputable def wu_about (x1 : Int32) (x2 : Int32) (h : pH) : pR :=
  px_bind (rv_hasIslet x2 h) fun z1 h2 =>
  if z1 = 0 then
    wu_about_19 h2
  else
    px_bind (wu_leavesBank x1 h2) fun z3 h4 =>
    if z3 = 0 then
      wu_about_19 h4
    else
      px_bind (wk_clearCounts h4) fun _ h6 =>
      px_bind (wk_start (px_c 3) h6) fun _ h8 =>
      wu_about_38 px_F x2 (px_c 0) h8
def wu_about_code : pCode := [(0, .aload_n 0, 1), (1, .getfield 26, 3), (4, .iload_n 2, 1), (5, .invokevirtual 177, 3), (8, .ifCond .eq (11), 3), (11, .aload_n 0, 1), (12, .iload_n 1, 1), (13, .invokevirtual 385, 3), (16, .ifCond .ne (5), 3), (19, .iconst (-1), 1), (20, .ireturn, 1), (21, .aload_n 0, 1), (22, .getfield 51, 3), (25, .invokevirtual 395, 3), (28, .aload_n 0, 1), (29, .getfield 51, 3), (32, .iconst 3, 1), (33, .invokevirtual 289, 3), (36, .iconst 0, 1), (37, .istore_n 3, 1), (38, .iload_n 3, 1), (39, .ldc_w 302, 3), (42, .if_icmp .ge (35), 3), (45, .aload_n 0, 1), (46, .getfield 51, 3), (49, .iconst 1, 1), (50, .invokevirtual 303, 3), (53, .ifCond .eq (24), 3), (56, .aload_n 0, 1), (57, .iload_n 2, 1), (58, .invokevirtual 388, 3), (61, .ifCond .eq (10), 3), (64, .aload_n 0, 1), (65, .getfield 51, 3), (68, .invokevirtual 398, 3), (71, .iinc 3 (1), 3), (74, .goto (-36), 3), (77, .aload_n 0, 1), (78, .getfield 51, 3), (81, .aload_n 0, 1), (82, .getfield 75, 3), (85, .invokevirtual 401, 3), (88, .ireturn, 1)]
set_option maxRecDepth 200000 in
theorem wu_about_code_ok : px_code prog_1_method_33_code wu_about_code = true := by decide +kernel
noncomputable def wu_about_orc : pC := px_orc [(119, fun a h => match a with
    | [.inr (.inl 25), .inr (.inl 45)] => wk_tellCounts h
    | _ => none), (103, fun a h => match a with
    | [.inr (.inl 25), .inl v1] => wk_next v1 h
    | _ => none), (171, fun a h => match a with
    | [.inr (.inl 0), .inl v1] => wu_endsOn v1 h
    | _ => none), (118, fun a h => match a with
    | [.inr (.inl 25)] => wk_countSaid h
    | _ => none), (61, fun a h => match a with
    | [.inr (.inl 14), .inl v1] => rv_hasIslet v1 h
    | _ => none), (170, fun a h => match a with
    | [.inr (.inl 0), .inl v1] => wu_leavesBank v1 h
    | _ => none), (117, fun a h => match a with
    | [.inr (.inl 25)] => wk_clearCounts h
    | _ => none), (100, fun a h => match a with
    | [.inr (.inl 25), .inl v1] => wk_start v1 h
    | _ => none)]
theorem wu_about_orc_ok {d : Nat} : px_Or (d + 6) (wu_about_orc) := px_orc_ok (by
  refine px_o1 (fun a h q e => by
    dsimp only at e
    split at e
    · exact wk_tellCounts_ok (d := d + 3) e
    · cases e) ?_
  refine px_o1 (fun a h q e => by
    dsimp only at e
    split at e
    · exact wk_next_ok (d := d + 1) e
    · cases e) ?_
  refine px_o1 (fun a h q e => by
    dsimp only at e
    split at e
    · exact wu_endsOn_ok (d := d + 2) e
    · cases e) ?_
  refine px_o1 (fun a h q e => by
    dsimp only at e
    split at e
    · exact wk_countSaid_ok (d := d + 3) e
    · cases e) ?_
  refine px_o1 (fun a h q e => by
    dsimp only at e
    split at e
    · exact rv_hasIslet_ok (d := d + 5) e
    · cases e) ?_
  refine px_o1 (fun a h q e => by
    dsimp only at e
    split at e
    · exact wu_leavesBank_ok (d := d + 0) e
    · cases e) ?_
  refine px_o1 (fun a h q e => by
    dsimp only at e
    split at e
    · exact wk_clearCounts_ok (d := d + 4) e
    · cases e) ?_
  refine px_o1 (fun a h q e => by
    dsimp only at e
    split at e
    · exact wk_start_ok (d := d + 2) e
    · cases e) ?_
  exact px_o0)
set_option maxRecDepth 200000 in
theorem wu_about_19_ok {d : Nat} : ∀ (h : pH) (q : Int32 × pH), wu_about_19 h = some q → px_G (d + 6 + 1) (pX_RX10, prog_1_method_33_code, 4, (some .int)) 19 [none, none, none, none] [] h q := by
  intro h q e
  exact px_blk_ok (d := d + 6) (M := (pX_RX10, prog_1_method_33_code, 4, (some .int))) (C := wu_about_orc) (code := wu_about_code) (ld := []) (kl := []) (wu_about_orc_ok) pX_ok_RX10 wu_about_code_ok (px_k0) 48 19 _ _ h q e
set_option maxRecDepth 200000 in
theorem wu_about_77_ok {d : Nat} : ∀ (h : pH) (q : Int32 × pH), wu_about_77 h = some q → px_G (d + 6 + 1) (pX_RX10, prog_1_method_33_code, 4, (some .int)) 77 [some (.inr (.inl 0)), none, none, none] [] h q := by
  intro h q e
  exact px_blk_ok (d := d + 6) (M := (pX_RX10, prog_1_method_33_code, 4, (some .int))) (C := wu_about_orc) (code := wu_about_code) (ld := []) (kl := []) (wu_about_orc_ok) pX_ok_RX10 wu_about_code_ok (px_k0) 48 77 _ _ h q e
set_option maxRecDepth 200000 in
theorem wu_about_71_ok {d : Nat} {r38 : Int32 → Int32 → pH → pR} (hr38 : ∀ (x2 : Int32) (x3 : Int32) (h : pH) (q : Int32 × pH), r38 x2 x3 h = some q → px_G (d + 6 + 1) (pX_RX10, prog_1_method_33_code, 4, (some .int)) 38 [some (.inr (.inl 0)), none, some (.inl x2), some (.inl x3)] [] h q) : ∀ (x2 : Int32) (x3 : Int32) (h : pH) (q : Int32 × pH), wu_about_71 r38 x2 x3 h = some q → px_G (d + 6 + 1) (pX_RX10, prog_1_method_33_code, 4, (some .int)) 71 [some (.inr (.inl 0)), none, some (.inl x2), some (.inl x3)] [] h q := by
  intro x2 x3 h q e
  exact px_blk_ok (d := d + 6) (M := (pX_RX10, prog_1_method_33_code, 4, (some .int))) (C := wu_about_orc) (code := wu_about_code) (ld := [38]) (kl := [(38, fun ls st h => px_if (px_fit [10, 0, 1, 1] ls && px_fits [] st) (r38 (px_gi ls 2) (px_gi ls 3) h))]) (wu_about_orc_ok) pX_ok_RX10 wu_about_code_ok (px_k1 (px_ko (ts := [10, 0, 1, 1]) (ss := []) fun ls st h q e => hr38 _ _ _ _ e) px_k0) 48 71 _ _ h q e
set_option maxRecDepth 200000 in
theorem wu_about_38_ok {d : Nat} : ∀ (n : Nat) (x2 : Int32) (x3 : Int32) (h : pH) (q : Int32 × pH), wu_about_38 n x2 x3 h = some q → px_G (d + 6 + 1) (pX_RX10, prog_1_method_33_code, 4, (some .int)) 38 [some (.inr (.inl 0)), none, some (.inl x2), some (.inl x3)] [] h q := by
  intro n
  induction n with
  | zero =>
    intro x2 x3 h q e
    cases e
  | succ n ih =>
    intro x2 x3 h q e
    exact px_blk_ok (d := d + 6) (M := (pX_RX10, prog_1_method_33_code, 4, (some .int))) (C := wu_about_orc) (code := wu_about_code) (ld := [71, 77]) (kl := [(71, fun ls st h => px_if (px_fit [10, 0, 1, 1] ls && px_fits [] st) (wu_about_71 (wu_about_38 n) (px_gi ls 2) (px_gi ls 3) h)), (77, fun ls st h => px_if (px_fit [10, 0, 0, 0] ls && px_fits [] st) (wu_about_77 h))]) (wu_about_orc_ok) pX_ok_RX10 wu_about_code_ok (px_k1 (px_ko (ts := [10, 0, 1, 1]) (ss := []) fun ls st h q e => wu_about_71_ok ih _ _ _ _ e) (px_k1 (px_ko (ts := [10, 0, 0, 0]) (ss := []) fun ls st h q e => wu_about_77_ok _ _ e) px_k0)) 48 38 _ _ h q e
set_option maxRecDepth 200000 in
theorem wu_about_ok {d : Nat} {x1 : Int32} {x2 : Int32} {h : pH} {q : Int32 × pH} (e : wu_about x1 x2 h = some q) : px_Con (d + 7) 151 [.inr (.inl 0), .inl x1, .inl x2] h q :=
  px_con (X := pX_RX10) (b := prog_1_method_33_code) (nL := 4) (rt := (some .int)) rfl rfl (Nat.le_of_ble_eq_true rfl) rfl (px_blk_ok (d := d + 6) (M := (pX_RX10, prog_1_method_33_code, 4, (some .int))) (C := wu_about_orc) (code := wu_about_code) (ld := [38, 19]) (kl := [(38, fun ls st h => px_if (px_fit [10, 0, 1, 1] ls && px_fits [] st) (wu_about_38 px_F (px_gi ls 2) (px_gi ls 3) h)), (19, fun ls st h => px_if (px_fit [0, 0, 0, 0] ls && px_fits [] st) (wu_about_19 h))]) (wu_about_orc_ok) pX_ok_RX10 wu_about_code_ok (px_k1 (px_ko (ts := [10, 0, 1, 1]) (ss := []) fun ls st h q e => wu_about_38_ok _ _ _ _ _ e) (px_k1 (px_ko (ts := [0, 0, 0, 0]) (ss := []) fun ls st h q e => wu_about_19_ok _ _ e) px_k0)) 48 0 _ _ _ q e)
/-! WordsUnsaid.bargain(II)I -/
noncomputable def wu_bargain_52 (h : pH) : pR :=
  some (px_c (-1), h)
noncomputable def wu_bargain_140 (r65 : Int32 → Int32 → Int32 → Int32 → Int32 → Int32 → pH → pR) (x1 : Int32) (x2 : Int32) (x3 : Int32) (x4 : Int32) (x5 : Int32) (x6 : Int32) (h : pH) : pR :=
  r65 x1 x2 x3 x4 x5 (x6 + px_c 1) h
noncomputable def wu_bargain_65 : Nat → Int32 → Int32 → Int32 → Int32 → Int32 → Int32 → pH → pR
  | 0, _, _, _, _, _, _, _ => none
  | n + 1, x1, x2, x3, x4, x5, x6, h =>
    if (h 3 11) ≤ x6 then
      if x3 = (px_c (-1)) then
        some (px_c (-2), h)
      else
        px_bind (tl_tell_ x4 x5 h) fun _ h2 =>
        some (x3, h2)
    else
      px_bind (wu_at 8 x6 h) fun z3 h4 =>
      px_bind (hs_price x6 h4) fun z5 h6 =>
      px_bind (hs_whyNotSell x1 x2 x6 h6) fun z7 h8 =>
      if z7 = 0 then
        if (z3 * x4) ≤ (x5 * z5) then
          wu_bargain_140 (wu_bargain_65 n) x1 x2 x3 x4 x5 x6 h8
        else
          wu_bargain_140 (wu_bargain_65 n) x1 x2 x6 z5 z3 x6 h8
      else
        wu_bargain_140 (wu_bargain_65 n) x1 x2 x3 x4 x5 x6 h8
noncomputable def wu_bargain (x1 : Int32) (x2 : Int32) (h : pH) : pR :=
  px_bind (hs_hasPerson x1 h) fun z1 h2 =>
  if z1 = 0 then
    wu_bargain_52 h2
  else
    px_bind (hs_hasPerson x2 h2) fun z3 h4 =>
    if z3 = 0 then
      wu_bargain_52 h4
    else
      if x1 = x2 then
        wu_bargain_52 h4
      else
        px_bind (wu_at 5 x1 h4) fun z5 h6 =>
        px_bind (wu_at 5 x2 h6) fun z7 h8 =>
        if z5 = z7 then
          wu_bargain_65 px_F x1 x2 (px_c (-1)) (px_c 1) (px_c 0) (px_c 0) h8
        else
          wu_bargain_52 h8
def wu_bargain_code : pCode := [(0, .aload_n 0, 1), (1, .getfield 19, 3), (4, .iload_n 1, 1), (5, .invokevirtual 110, 3), (8, .ifCond .eq (44), 3), (11, .aload_n 0, 1), (12, .getfield 19, 3), (15, .iload_n 2, 1), (16, .invokevirtual 110, 3), (19, .ifCond .eq (33), 3), (22, .iload_n 1, 1), (23, .iload_n 2, 1), (24, .if_icmp .eq (28), 3), (27, .aload_n 0, 1), (28, .getfield 19, 3), (31, .getfield 128, 3), (34, .iload_n 1, 1), (35, .invokestatic 124, 3), (38, .aload_n 0, 1), (39, .getfield 19, 3), (42, .getfield 128, 3), (45, .iload_n 2, 1), (46, .invokestatic 124, 3), (49, .if_icmp .eq (5), 3), (52, .iconst (-1), 1), (53, .ireturn, 1), (54, .iconst (-1), 1), (55, .istore_n 3, 1), (56, .iconst 1, 1), (57, .istore 4, 2), (59, .iconst 0, 1), (60, .istore 5, 2), (62, .iconst 0, 1), (63, .istore 6, 2), (65, .iload 6, 2), (67, .aload_n 0, 1), (68, .getfield 19, 3), (71, .getfield 187, 3), (74, .if_icmp .ge (72), 3), (77, .aload_n 0, 1), (78, .getfield 19, 3), (81, .getfield 157, 3), (84, .iload 6, 2), (86, .invokestatic 124, 3), (89, .istore 7, 2), (91, .aload_n 0, 1), (92, .getfield 19, 3), (95, .iload 6, 2), (97, .invokevirtual 405, 3), (100, .istore 8, 2), (102, .aload_n 0, 1), (103, .getfield 19, 3), (106, .iload_n 1, 1), (107, .iload_n 2, 1), (108, .iload 6, 2), (110, .invokevirtual 408, 3), (113, .ifCond .ne (27), 3), (116, .iload 7, 2), (118, .iload 4, 2), (120, .imul, 1), (121, .iload 5, 2), (123, .iload 8, 2), (125, .imul, 1), (126, .if_icmp .le (14), 3), (129, .iload 6, 2), (131, .istore_n 3, 1), (132, .iload 8, 2), (134, .istore 4, 2), (136, .iload 7, 2), (138, .istore 5, 2), (140, .iinc 6 (1), 3), (143, .goto (-78), 3), (146, .iload_n 3, 1), (147, .iconst (-1), 1), (148, .if_icmp .ne (6), 3), (151, .bipush (-2), 2), (153, .ireturn, 1), (154, .aload_n 0, 1), (155, .getfield 75, 3), (158, .iload 4, 2), (160, .iload 5, 2), (162, .invokevirtual 252, 3), (165, .iload_n 3, 1), (166, .ireturn, 1)]
set_option maxRecDepth 200000 in
theorem wu_bargain_code_ok : px_code prog_1_method_34_code wu_bargain_code = true := by decide +kernel
noncomputable def wu_bargain_orc : pC := px_orc [(84, fun a h => match a with
    | [.inr (.inl 45), .inl v1, .inl v2] => tl_tell_ v1 v2 h
    | _ => none), (158, fun a h => match a with
    | [.inr (.inl v0), .inl v1] => wu_at v0 v1 h
    | _ => none), (48, fun a h => match a with
    | [.inr (.inl 3), .inl v1] => hs_price v1 h
    | _ => none), (49, fun a h => match a with
    | [.inr (.inl 3), .inl v1, .inl v2, .inl v3] => hs_whyNotSell v1 v2 v3 h
    | _ => none), (25, fun a h => match a with
    | [.inr (.inl 3), .inl v1] => hs_hasPerson v1 h
    | _ => none)]
theorem wu_bargain_orc_ok {d : Nat} : px_Or (d + 4) (wu_bargain_orc) := px_orc_ok (by
  refine px_o1 (fun a h q e => by
    dsimp only at e
    split at e
    · exact tl_tell__ok (d := d + 0) e
    · cases e) ?_
  refine px_o1 (fun a h q e => by
    dsimp only at e
    split at e
    · exact wu_at_ok (d := d + 3) e
    · cases e) ?_
  refine px_o1 (fun a h q e => by
    dsimp only at e
    split at e
    · exact hs_price_ok (d := d + 2) e
    · cases e) ?_
  refine px_o1 (fun a h q e => by
    dsimp only at e
    split at e
    · exact hs_whyNotSell_ok (d := d + 0) e
    · cases e) ?_
  refine px_o1 (fun a h q e => by
    dsimp only at e
    split at e
    · exact hs_hasPerson_ok (d := d + 3) e
    · cases e) ?_
  exact px_o0)
set_option maxRecDepth 200000 in
theorem wu_bargain_52_ok {d : Nat} : ∀ (h : pH) (q : Int32 × pH), wu_bargain_52 h = some q → px_G (d + 4 + 1) (pX_RX10, prog_1_method_34_code, 9, (some .int)) 52 [none, none, none, none, none, none, none, none, none] [] h q := by
  intro h q e
  exact px_blk_ok (d := d + 4) (M := (pX_RX10, prog_1_method_34_code, 9, (some .int))) (C := wu_bargain_orc) (code := wu_bargain_code) (ld := []) (kl := []) (wu_bargain_orc_ok) pX_ok_RX10 wu_bargain_code_ok (px_k0) 89 52 _ _ h q e
set_option maxRecDepth 200000 in
theorem wu_bargain_140_ok {d : Nat} {r65 : Int32 → Int32 → Int32 → Int32 → Int32 → Int32 → pH → pR} (hr65 : ∀ (x1 : Int32) (x2 : Int32) (x3 : Int32) (x4 : Int32) (x5 : Int32) (x6 : Int32) (h : pH) (q : Int32 × pH), r65 x1 x2 x3 x4 x5 x6 h = some q → px_G (d + 4 + 1) (pX_RX10, prog_1_method_34_code, 9, (some .int)) 65 [some (.inr (.inl 0)), some (.inl x1), some (.inl x2), some (.inl x3), some (.inl x4), some (.inl x5), some (.inl x6), none, none] [] h q) : ∀ (x1 : Int32) (x2 : Int32) (x3 : Int32) (x4 : Int32) (x5 : Int32) (x6 : Int32) (h : pH) (q : Int32 × pH), wu_bargain_140 r65 x1 x2 x3 x4 x5 x6 h = some q → px_G (d + 4 + 1) (pX_RX10, prog_1_method_34_code, 9, (some .int)) 140 [some (.inr (.inl 0)), some (.inl x1), some (.inl x2), some (.inl x3), some (.inl x4), some (.inl x5), some (.inl x6), none, none] [] h q := by
  intro x1 x2 x3 x4 x5 x6 h q e
  exact px_blk_ok (d := d + 4) (M := (pX_RX10, prog_1_method_34_code, 9, (some .int))) (C := wu_bargain_orc) (code := wu_bargain_code) (ld := [65]) (kl := [(65, fun ls st h => px_if (px_fit [10, 1, 1, 1, 1, 1, 1, 0, 0] ls && px_fits [] st) (r65 (px_gi ls 1) (px_gi ls 2) (px_gi ls 3) (px_gi ls 4) (px_gi ls 5) (px_gi ls 6) h))]) (wu_bargain_orc_ok) pX_ok_RX10 wu_bargain_code_ok (px_k1 (px_ko (ts := [10, 1, 1, 1, 1, 1, 1, 0, 0]) (ss := []) fun ls st h q e => hr65 _ _ _ _ _ _ _ _ e) px_k0) 89 140 _ _ h q e
set_option maxRecDepth 200000 in
theorem wu_bargain_65_ok {d : Nat} : ∀ (n : Nat) (x1 : Int32) (x2 : Int32) (x3 : Int32) (x4 : Int32) (x5 : Int32) (x6 : Int32) (h : pH) (q : Int32 × pH), wu_bargain_65 n x1 x2 x3 x4 x5 x6 h = some q → px_G (d + 4 + 1) (pX_RX10, prog_1_method_34_code, 9, (some .int)) 65 [some (.inr (.inl 0)), some (.inl x1), some (.inl x2), some (.inl x3), some (.inl x4), some (.inl x5), some (.inl x6), none, none] [] h q := by
  intro n
  induction n with
  | zero =>
    intro x1 x2 x3 x4 x5 x6 h q e
    cases e
  | succ n ih =>
    intro x1 x2 x3 x4 x5 x6 h q e
    exact px_blk_ok (d := d + 4) (M := (pX_RX10, prog_1_method_34_code, 9, (some .int))) (C := wu_bargain_orc) (code := wu_bargain_code) (ld := [140]) (kl := [(140, fun ls st h => px_if (px_fit [10, 1, 1, 1, 1, 1, 1, 0, 0] ls && px_fits [] st) (wu_bargain_140 (wu_bargain_65 n) (px_gi ls 1) (px_gi ls 2) (px_gi ls 3) (px_gi ls 4) (px_gi ls 5) (px_gi ls 6) h))]) (wu_bargain_orc_ok) pX_ok_RX10 wu_bargain_code_ok (px_k1 (px_ko (ts := [10, 1, 1, 1, 1, 1, 1, 0, 0]) (ss := []) fun ls st h q e => wu_bargain_140_ok ih _ _ _ _ _ _ _ _ e) px_k0) 89 65 _ _ h q e
set_option maxRecDepth 200000 in
theorem wu_bargain_ok {d : Nat} {x1 : Int32} {x2 : Int32} {h : pH} {q : Int32 × pH} (e : wu_bargain x1 x2 h = some q) : px_Con (d + 5) 152 [.inr (.inl 0), .inl x1, .inl x2] h q :=
  px_con (X := pX_RX10) (b := prog_1_method_34_code) (nL := 9) (rt := (some .int)) rfl rfl (Nat.le_of_ble_eq_true rfl) rfl (px_blk_ok (d := d + 4) (M := (pX_RX10, prog_1_method_34_code, 9, (some .int))) (C := wu_bargain_orc) (code := wu_bargain_code) (ld := [65, 52]) (kl := [(65, fun ls st h => px_if (px_fit [10, 1, 1, 1, 1, 1, 1, 0, 0] ls && px_fits [] st) (wu_bargain_65 px_F (px_gi ls 1) (px_gi ls 2) (px_gi ls 3) (px_gi ls 4) (px_gi ls 5) (px_gi ls 6) h)), (52, fun ls st h => px_if (px_fit [0, 0, 0, 0, 0, 0, 0, 0, 0] ls && px_fits [] st) (wu_bargain_52 h))]) (wu_bargain_orc_ok) pX_ok_RX10 wu_bargain_code_ok (px_k1 (px_ko (ts := [10, 1, 1, 1, 1, 1, 1, 0, 0]) (ss := []) fun ls st h q e => wu_bargain_65_ok _ _ _ _ _ _ _ _ _ e) (px_k1 (px_ko (ts := [0, 0, 0, 0, 0, 0, 0, 0, 0]) (ss := []) fun ls st h q e => wu_bargain_52_ok _ _ e) px_k0)) 89 0 _ _ _ q e)
/-! WordsUnsaid.draw(I)I -/
noncomputable def wu_draw_33 (s0 : Int32) (h : pH) : pR :=
  some (s0, h)
noncomputable def wu_draw (x1 : Int32) (h : pH) : pR :=
  let h1 := px_w h 0 11 (((h 0 11) * (px_k 1103515245)) + (px_c 12345))
  if x1 ≤ 0 then
    wu_draw_33 (px_c 0) h1
  else
    if x1 = 0 then none else
    wu_draw_33 ((px_ush (h1 0 11) (px_c 16)) - (px_ush (h1 0 11) (px_c 16)) / x1 * x1) h1
def wu_draw_code : pCode := [(0, .aload_n 0, 1), (1, .aload_n 0, 1), (2, .getfield 411, 3), (5, .ldc_w 490, 3), (8, .imul, 1), (9, .sipush (12345), 3), (12, .iadd, 1), (13, .putfield 411, 3), (16, .iload_n 1, 1), (17, .ifCond .le (15), 3), (20, .aload_n 0, 1), (21, .getfield 411, 3), (24, .bipush (16), 2), (26, .iushr, 1), (27, .iload_n 1, 1), (28, .irem, 1), (29, .goto (4), 3), (32, .iconst 0, 1), (33, .ireturn, 1)]
set_option maxRecDepth 200000 in
theorem wu_draw_code_ok : px_code prog_1_method_54_code wu_draw_code = true := by decide +kernel
noncomputable def wu_draw_orc : pC := px_orc []
theorem wu_draw_orc_ok {d : Nat} : px_Or (d + 0) (wu_draw_orc) := px_orc_ok (by
  exact px_o0)
set_option maxRecDepth 200000 in
theorem wu_draw_33_ok {d : Nat} : ∀ (s0 : Int32) (h : pH) (q : Int32 × pH), wu_draw_33 s0 h = some q → px_G (d + 0 + 1) (pX_RX10, prog_1_method_54_code, 2, (some .int)) 33 [none, none] [.inl s0] h q := by
  intro s0 h q e
  exact px_blk_ok (d := d + 0) (M := (pX_RX10, prog_1_method_54_code, 2, (some .int))) (C := wu_draw_orc) (code := wu_draw_code) (ld := []) (kl := []) (wu_draw_orc_ok) pX_ok_RX10 wu_draw_code_ok (px_k0) 24 33 _ _ h q e
set_option maxRecDepth 200000 in
theorem wu_draw_ok {d : Nat} {x1 : Int32} {h : pH} {q : Int32 × pH} (e : wu_draw x1 h = some q) : px_Con (d + 1) 172 [.inr (.inl 0), .inl x1] h q :=
  px_con (X := pX_RX10) (b := prog_1_method_54_code) (nL := 2) (rt := (some .int)) rfl rfl (Nat.le_of_ble_eq_true rfl) rfl (px_blk_ok (d := d + 0) (M := (pX_RX10, prog_1_method_54_code, 2, (some .int))) (C := wu_draw_orc) (code := wu_draw_code) (ld := [33]) (kl := [(33, fun ls st h => px_if (px_fit [0, 0] ls && px_fits [1] st) (wu_draw_33 (px_si st 0) h))]) (wu_draw_orc_ok) pX_ok_RX10 wu_draw_code_ok (px_k1 (px_ko (ts := [0, 0]) (ss := [1]) fun ls st h q e => wu_draw_33_ok _ _ _ e) px_k0) 24 0 _ _ _ q e)
/-! WordsUnsaid.crossesBy(II)Z -/
noncomputable def wu_crossesBy_55 (h : pH) : pR :=
  px_bz (px_c 0) h
noncomputable def wu_crossesBy_20 (x1 : Int32) (x2 : Int32) (s0 : Int32) (h : pH) : pR :=
  px_bind (cr_begin x1 (px_c (-1)) s0 h) fun z1 h2 =>
  if z1 = 0 then
    wu_crossesBy_55 h2
  else
    px_bind (cr_take x2 h2) fun z3 h4 =>
    if z3 = 0 then
      wu_crossesBy_55 h4
    else
      px_bind (cr_hasWords h4) fun z5 h6 =>
      if z5 = 0 then
        wu_crossesBy_55 h6
      else
        px_bind (cr_go h6) fun _ h8 =>
        px_bind (cr_settle h8) fun _ h10 =>
        px_bz (px_c 1) h10
noncomputable def wu_crossesBy (x1 : Int32) (x2 : Int32) (h : pH) : pR :=
  px_bind (wu_at 5 x1 h) fun z1 h2 =>
  if z1 = (px_c 1) then
    wu_crossesBy_20 x1 x2 (px_c 0) h2
  else
    wu_crossesBy_20 x1 x2 (px_c 1) h2
def wu_crossesBy_code : pCode := [(0, .aload_n 0, 1), (1, .getfield 19, 3), (4, .getfield 128, 3), (7, .iload_n 1, 1), (8, .invokestatic 124, 3), (11, .iconst 1, 1), (12, .if_icmp .ne (7), 3), (15, .iconst 0, 1), (16, .goto (4), 3), (19, .iconst 1, 1), (20, .istore_n 3, 1), (21, .aload_n 0, 1), (22, .getfield 42, 3), (25, .iload_n 1, 1), (26, .iconst (-1), 1), (27, .iload_n 3, 1), (28, .invokevirtual 261, 3), (31, .ifCond .eq (24), 3), (34, .aload_n 0, 1), (35, .getfield 42, 3), (38, .iload_n 2, 1), (39, .invokevirtual 452, 3), (42, .ifCond .eq (13), 3), (45, .aload_n 0, 1), (46, .getfield 42, 3), (49, .invokevirtual 447, 3), (52, .ifCond .ne (5), 3), (55, .iconst 0, 1), (56, .ireturn, 1), (57, .aload_n 0, 1), (58, .getfield 42, 3), (61, .invokevirtual 198, 3), (64, .aload_n 0, 1), (65, .getfield 42, 3), (68, .invokevirtual 205, 3), (71, .iconst 1, 1), (72, .ireturn, 1)]
set_option maxRecDepth 200000 in
theorem wu_crossesBy_code_ok : px_code prog_1_method_55_code wu_crossesBy_code = true := by decide +kernel
noncomputable def wu_crossesBy_orc : pC := px_orc [(5, fun a h => match a with
    | [.inr (.inl 22), .inl v1, .inl v2, .inl v3] => cr_begin v1 v2 v3 h
    | _ => none), (7, fun a h => match a with
    | [.inr (.inl 22), .inl v1] => cr_take v1 h
    | _ => none), (8, fun a h => match a with
    | [.inr (.inl 22)] => cr_hasWords h
    | _ => none), (9, fun a h => match a with
    | [.inr (.inl 22)] => cr_go h
    | _ => none), (10, fun a h => match a with
    | [.inr (.inl 22)] => cr_settle h
    | _ => none), (158, fun a h => match a with
    | [.inr (.inl v0), .inl v1] => wu_at v0 v1 h
    | _ => none)]
theorem wu_crossesBy_orc_ok {d : Nat} : px_Or (d + 5) (wu_crossesBy_orc) := px_orc_ok (by
  refine px_o1 (fun a h q e => by
    dsimp only at e
    split at e
    · exact cr_begin_ok (d := d + 0) e
    · cases e) ?_
  refine px_o1 (fun a h q e => by
    dsimp only at e
    split at e
    · exact cr_take_ok (d := d + 2) e
    · cases e) ?_
  refine px_o1 (fun a h q e => by
    dsimp only at e
    split at e
    · exact cr_hasWords_ok (d := d + 3) e
    · cases e) ?_
  refine px_o1 (fun a h q e => by
    dsimp only at e
    split at e
    · exact cr_go_ok (d := d + 1) e
    · cases e) ?_
  refine px_o1 (fun a h q e => by
    dsimp only at e
    split at e
    · exact cr_settle_ok (d := d + 2) e
    · cases e) ?_
  refine px_o1 (fun a h q e => by
    dsimp only at e
    split at e
    · exact wu_at_ok (d := d + 4) e
    · cases e) ?_
  exact px_o0)
set_option maxRecDepth 200000 in
theorem wu_crossesBy_55_ok {d : Nat} : ∀ (h : pH) (q : Int32 × pH), wu_crossesBy_55 h = some q → px_G (d + 5 + 1) (pX_RX10, prog_1_method_55_code, 4, (some .boolean)) 55 [none, none, none, none] [] h q := by
  intro h q e
  exact px_blk_ok (d := d + 5) (M := (pX_RX10, prog_1_method_55_code, 4, (some .boolean))) (C := wu_crossesBy_orc) (code := wu_crossesBy_code) (ld := []) (kl := []) (wu_crossesBy_orc_ok) pX_ok_RX10 wu_crossesBy_code_ok (px_k0) 42 55 _ _ h q e
set_option maxRecDepth 200000 in
theorem wu_crossesBy_20_ok {d : Nat} : ∀ (x1 : Int32) (x2 : Int32) (s0 : Int32) (h : pH) (q : Int32 × pH), wu_crossesBy_20 x1 x2 s0 h = some q → px_G (d + 5 + 1) (pX_RX10, prog_1_method_55_code, 4, (some .boolean)) 20 [some (.inr (.inl 0)), some (.inl x1), some (.inl x2), none] [.inl s0] h q := by
  intro x1 x2 s0 h q e
  exact px_blk_ok (d := d + 5) (M := (pX_RX10, prog_1_method_55_code, 4, (some .boolean))) (C := wu_crossesBy_orc) (code := wu_crossesBy_code) (ld := [55]) (kl := [(55, fun ls st h => px_if (px_fit [0, 0, 0, 0] ls && px_fits [] st) (wu_crossesBy_55 h))]) (wu_crossesBy_orc_ok) pX_ok_RX10 wu_crossesBy_code_ok (px_k1 (px_ko (ts := [0, 0, 0, 0]) (ss := []) fun ls st h q e => wu_crossesBy_55_ok _ _ e) px_k0) 42 20 _ _ h q e
set_option maxRecDepth 200000 in
theorem wu_crossesBy_ok {d : Nat} {x1 : Int32} {x2 : Int32} {h : pH} {q : Int32 × pH} (e : wu_crossesBy x1 x2 h = some q) : px_Con (d + 6) 173 [.inr (.inl 0), .inl x1, .inl x2] h q :=
  px_con (X := pX_RX10) (b := prog_1_method_55_code) (nL := 4) (rt := (some .boolean)) rfl rfl (Nat.le_of_ble_eq_true rfl) rfl (px_blk_ok (d := d + 5) (M := (pX_RX10, prog_1_method_55_code, 4, (some .boolean))) (C := wu_crossesBy_orc) (code := wu_crossesBy_code) (ld := [20]) (kl := [(20, fun ls st h => px_if (px_fit [10, 1, 1, 0] ls && px_fits [1] st) (wu_crossesBy_20 (px_gi ls 1) (px_gi ls 2) (px_si st 0) h))]) (wu_crossesBy_orc_ok) pX_ok_RX10 wu_crossesBy_code_ok (px_k1 (px_ko (ts := [10, 1, 1, 0]) (ss := [1]) fun ls st h q e => wu_crossesBy_20_ok _ _ _ _ _ e) px_k0) 42 0 _ _ _ q e)
/-! WordsUnsaid.years(II)I -/
noncomputable def wu_years_11 (h : pH) : pR :=
  some (px_c (-1), h)
noncomputable def wu_years_128 (r50 : Int32 → Int32 → Int32 → Int32 → pH → pR) (x2 : Int32) (x3 : Int32) (x4 : Int32) (x5 : Int32) (h : pH) : pR :=
  r50 x2 x3 x4 (x5 + px_c 1) h
noncomputable def wu_years_125 (r50 : Int32 → Int32 → Int32 → Int32 → pH → pR) (x2 : Int32) (x3 : Int32) (x5 : Int32) (s0 : Int32) (s1 : Int32) (h : pH) : pR :=
  let y4_1 := s1 + s0
  wu_years_128 r50 x2 x3 y4_1 x5 h
noncomputable def wu_years_105 (r50 : Int32 → Int32 → Int32 → Int32 → pH → pR) (x2 : Int32) (x4 : Int32) (x5 : Int32) (s0 : Int32) (s1 : Int32) (h : pH) : pR :=
  let y3_1 := s1 + s0
  if (h 22 11) = (px_c (-1)) then
    wu_years_125 r50 x2 y3_1 x5 (px_c 0) x4 h
  else
    wu_years_125 r50 x2 y3_1 x5 (px_c 1) x4 h
noncomputable def wu_years_50 : Nat → Int32 → Int32 → Int32 → Int32 → pH → pR
  | 0, _, _, _, _, _ => none
  | n + 1, x2, x3, x4, x5, h =>
    if x2 ≤ x5 then
      px_bind (hs_saidThings h) fun z1 h2 =>
      px_bind (tl_tell_ x3 z1 h2) fun _ h4 =>
      px_bind (me_unstage h4) fun _ h6 =>
      some (x4, h6)
    else
      px_bind (wu_draw (h 3 10) h) fun z7 h8 =>
      px_bind (wu_draw (px_c 10) h8) fun z9 h10 =>
      px_bind (wu_crossesBy z7 z9 h10) fun z11 h12 =>
      if z11 = 0 then
        wu_years_128 (wu_years_50 n) x2 x3 x4 x5 h12
      else
        if (h12 22 11) = (px_c (-1)) then
          wu_years_105 (wu_years_50 n) x2 x4 x5 (px_c 1) x3 h12
        else
          wu_years_105 (wu_years_50 n) x2 x4 x5 (px_c 0) x3 h12
noncomputable def wu_years (x1 : Int32) (x2 : Int32) (h : pH) : pR :=
  if x2 < (px_c 1) then
    wu_years_11 h
  else
    if x2 ≤ (px_c 40) then
      if (h 3 10) = 0 then
        some (px_c (-2), h)
      else
        let h1 := px_w h 0 11 x1
        px_bind (me_stage h1) fun _ h3 =>
        wu_years_50 px_F x2 (px_c 0) (px_c 0) (px_c 0) h3
    else
      wu_years_11 h
def wu_years_code : pCode := [(0, .iload_n 2, 1), (1, .iconst 1, 1), (2, .if_icmp .lt (9), 3), (5, .iload_n 2, 1), (6, .bipush (40), 2), (8, .if_icmp .le (5), 3), (11, .iconst (-1), 1), (12, .ireturn, 1), (13, .aload_n 0, 1), (14, .getfield 19, 3), (17, .getfield 364, 3), (20, .ifCond .ne (6), 3), (23, .bipush (-2), 2), (25, .ireturn, 1), (26, .aload_n 0, 1), (27, .iload_n 1, 1), (28, .putfield 411, 3), (31, .iconst 0, 1), (32, .istore_n 3, 1), (33, .iconst 0, 1), (34, .istore 4, 2), (36, .aload_n 0, 1), (37, .getfield 61, 3), (40, .aload_n 0, 1), (41, .getfield 19, 3), (44, .invokevirtual 201, 3), (47, .iconst 0, 1), (48, .istore 5, 2), (50, .iload 5, 2), (52, .iload_n 2, 1), (53, .if_icmp .ge (81), 3), (56, .aload_n 0, 1), (57, .aload_n 0, 1), (58, .getfield 19, 3), (61, .getfield 364, 3), (64, .invokevirtual 414, 3), (67, .istore 6, 2), (69, .aload_n 0, 1), (70, .bipush (10), 2), (72, .invokevirtual 414, 3), (75, .istore 7, 2), (77, .aload_n 0, 1), (78, .iload 6, 2), (80, .iload 7, 2), (82, .invokevirtual 417, 3), (85, .ifCond .eq (43), 3), (88, .iload_n 3, 1), (89, .aload_n 0, 1), (90, .getfield 42, 3), (93, .getfield 250, 3), (96, .iconst (-1), 1), (97, .if_icmp .ne (7), 3), (100, .iconst 1, 1), (101, .goto (4), 3), (104, .iconst 0, 1), (105, .iadd, 1), (106, .istore_n 3, 1), (107, .iload 4, 2), (109, .aload_n 0, 1), (110, .getfield 42, 3), (113, .getfield 250, 3), (116, .iconst (-1), 1), (117, .if_icmp .ne (7), 3), (120, .iconst 0, 1), (121, .goto (4), 3), (124, .iconst 1, 1), (125, .iadd, 1), (126, .istore 4, 2), (128, .iinc 5 (1), 3), (131, .goto (-81), 3), (134, .aload_n 0, 1), (135, .getfield 75, 3), (138, .iload_n 3, 1), (139, .aload_n 0, 1), (140, .getfield 19, 3), (143, .invokevirtual 420, 3), (146, .invokevirtual 252, 3), (149, .aload_n 0, 1), (150, .getfield 61, 3), (153, .aload_n 0, 1), (154, .getfield 19, 3), (157, .invokevirtual 423, 3), (160, .iload 4, 2), (162, .ireturn, 1)]
set_option maxRecDepth 200000 in
theorem wu_years_code_ok : px_code prog_1_method_35_code wu_years_code = true := by decide +kernel
noncomputable def wu_years_orc : pC := px_orc [(33, fun a h => match a with
    | [.inr (.inl 3)] => hs_saidThings h
    | _ => none), (84, fun a h => match a with
    | [.inr (.inl 45), .inl v1, .inl v2] => tl_tell_ v1 v2 h
    | _ => none), (54, fun a h => match a with
    | [.inr (.inl 41), .inr (.inl 3)] => me_unstage h
    | _ => none), (172, fun a h => match a with
    | [.inr (.inl 0), .inl v1] => wu_draw v1 h
    | _ => none), (173, fun a h => match a with
    | [.inr (.inl 0), .inl v1, .inl v2] => wu_crossesBy v1 v2 h
    | _ => none), (53, fun a h => match a with
    | [.inr (.inl 41), .inr (.inl 3)] => me_stage h
    | _ => none)]
theorem wu_years_orc_ok {d : Nat} : px_Or (d + 6) (wu_years_orc) := px_orc_ok (by
  refine px_o1 (fun a h q e => by
    dsimp only at e
    split at e
    · exact hs_saidThings_ok (d := d + 4) e
    · cases e) ?_
  refine px_o1 (fun a h q e => by
    dsimp only at e
    split at e
    · exact tl_tell__ok (d := d + 2) e
    · cases e) ?_
  refine px_o1 (fun a h q e => by
    dsimp only at e
    split at e
    · exact me_unstage_ok (d := d + 3) e
    · cases e) ?_
  refine px_o1 (fun a h q e => by
    dsimp only at e
    split at e
    · exact wu_draw_ok (d := d + 5) e
    · cases e) ?_
  refine px_o1 (fun a h q e => by
    dsimp only at e
    split at e
    · exact wu_crossesBy_ok (d := d + 0) e
    · cases e) ?_
  refine px_o1 (fun a h q e => by
    dsimp only at e
    split at e
    · exact me_stage_ok (d := d + 3) e
    · cases e) ?_
  exact px_o0)
set_option maxRecDepth 200000 in
theorem wu_years_11_ok {d : Nat} : ∀ (h : pH) (q : Int32 × pH), wu_years_11 h = some q → px_G (d + 6 + 1) (pX_RX10, prog_1_method_35_code, 8, (some .int)) 11 [none, none, none, none, none, none, none, none] [] h q := by
  intro h q e
  exact px_blk_ok (d := d + 6) (M := (pX_RX10, prog_1_method_35_code, 8, (some .int))) (C := wu_years_orc) (code := wu_years_code) (ld := []) (kl := []) (wu_years_orc_ok) pX_ok_RX10 wu_years_code_ok (px_k0) 89 11 _ _ h q e
set_option maxRecDepth 200000 in
theorem wu_years_128_ok {d : Nat} {r50 : Int32 → Int32 → Int32 → Int32 → pH → pR} (hr50 : ∀ (x2 : Int32) (x3 : Int32) (x4 : Int32) (x5 : Int32) (h : pH) (q : Int32 × pH), r50 x2 x3 x4 x5 h = some q → px_G (d + 6 + 1) (pX_RX10, prog_1_method_35_code, 8, (some .int)) 50 [some (.inr (.inl 0)), none, some (.inl x2), some (.inl x3), some (.inl x4), some (.inl x5), none, none] [] h q) : ∀ (x2 : Int32) (x3 : Int32) (x4 : Int32) (x5 : Int32) (h : pH) (q : Int32 × pH), wu_years_128 r50 x2 x3 x4 x5 h = some q → px_G (d + 6 + 1) (pX_RX10, prog_1_method_35_code, 8, (some .int)) 128 [some (.inr (.inl 0)), none, some (.inl x2), some (.inl x3), some (.inl x4), some (.inl x5), none, none] [] h q := by
  intro x2 x3 x4 x5 h q e
  exact px_blk_ok (d := d + 6) (M := (pX_RX10, prog_1_method_35_code, 8, (some .int))) (C := wu_years_orc) (code := wu_years_code) (ld := [50]) (kl := [(50, fun ls st h => px_if (px_fit [10, 0, 1, 1, 1, 1, 0, 0] ls && px_fits [] st) (r50 (px_gi ls 2) (px_gi ls 3) (px_gi ls 4) (px_gi ls 5) h))]) (wu_years_orc_ok) pX_ok_RX10 wu_years_code_ok (px_k1 (px_ko (ts := [10, 0, 1, 1, 1, 1, 0, 0]) (ss := []) fun ls st h q e => hr50 _ _ _ _ _ _ e) px_k0) 89 128 _ _ h q e
set_option maxRecDepth 200000 in
theorem wu_years_125_ok {d : Nat} {r50 : Int32 → Int32 → Int32 → Int32 → pH → pR} (hr50 : ∀ (x2 : Int32) (x3 : Int32) (x4 : Int32) (x5 : Int32) (h : pH) (q : Int32 × pH), r50 x2 x3 x4 x5 h = some q → px_G (d + 6 + 1) (pX_RX10, prog_1_method_35_code, 8, (some .int)) 50 [some (.inr (.inl 0)), none, some (.inl x2), some (.inl x3), some (.inl x4), some (.inl x5), none, none] [] h q) : ∀ (x2 : Int32) (x3 : Int32) (x5 : Int32) (s0 : Int32) (s1 : Int32) (h : pH) (q : Int32 × pH), wu_years_125 r50 x2 x3 x5 s0 s1 h = some q → px_G (d + 6 + 1) (pX_RX10, prog_1_method_35_code, 8, (some .int)) 125 [some (.inr (.inl 0)), none, some (.inl x2), some (.inl x3), none, some (.inl x5), none, none] [.inl s0, .inl s1] h q := by
  intro x2 x3 x5 s0 s1 h q e
  exact px_blk_ok (d := d + 6) (M := (pX_RX10, prog_1_method_35_code, 8, (some .int))) (C := wu_years_orc) (code := wu_years_code) (ld := [128]) (kl := [(128, fun ls st h => px_if (px_fit [10, 0, 1, 1, 1, 1, 0, 0] ls && px_fits [] st) (wu_years_128 r50 (px_gi ls 2) (px_gi ls 3) (px_gi ls 4) (px_gi ls 5) h))]) (wu_years_orc_ok) pX_ok_RX10 wu_years_code_ok (px_k1 (px_ko (ts := [10, 0, 1, 1, 1, 1, 0, 0]) (ss := []) fun ls st h q e => wu_years_128_ok hr50 _ _ _ _ _ _ e) px_k0) 89 125 _ _ h q e
set_option maxRecDepth 200000 in
theorem wu_years_105_ok {d : Nat} {r50 : Int32 → Int32 → Int32 → Int32 → pH → pR} (hr50 : ∀ (x2 : Int32) (x3 : Int32) (x4 : Int32) (x5 : Int32) (h : pH) (q : Int32 × pH), r50 x2 x3 x4 x5 h = some q → px_G (d + 6 + 1) (pX_RX10, prog_1_method_35_code, 8, (some .int)) 50 [some (.inr (.inl 0)), none, some (.inl x2), some (.inl x3), some (.inl x4), some (.inl x5), none, none] [] h q) : ∀ (x2 : Int32) (x4 : Int32) (x5 : Int32) (s0 : Int32) (s1 : Int32) (h : pH) (q : Int32 × pH), wu_years_105 r50 x2 x4 x5 s0 s1 h = some q → px_G (d + 6 + 1) (pX_RX10, prog_1_method_35_code, 8, (some .int)) 105 [some (.inr (.inl 0)), none, some (.inl x2), none, some (.inl x4), some (.inl x5), none, none] [.inl s0, .inl s1] h q := by
  intro x2 x4 x5 s0 s1 h q e
  exact px_blk_ok (d := d + 6) (M := (pX_RX10, prog_1_method_35_code, 8, (some .int))) (C := wu_years_orc) (code := wu_years_code) (ld := [125]) (kl := [(125, fun ls st h => px_if (px_fit [10, 0, 1, 1, 0, 1, 0, 0] ls && px_fits [1, 1] st) (wu_years_125 r50 (px_gi ls 2) (px_gi ls 3) (px_gi ls 5) (px_si st 0) (px_si st 1) h))]) (wu_years_orc_ok) pX_ok_RX10 wu_years_code_ok (px_k1 (px_ko (ts := [10, 0, 1, 1, 0, 1, 0, 0]) (ss := [1, 1]) fun ls st h q e => wu_years_125_ok hr50 _ _ _ _ _ _ _ e) px_k0) 89 105 _ _ h q e
set_option maxRecDepth 200000 in
theorem wu_years_50_ok {d : Nat} : ∀ (n : Nat) (x2 : Int32) (x3 : Int32) (x4 : Int32) (x5 : Int32) (h : pH) (q : Int32 × pH), wu_years_50 n x2 x3 x4 x5 h = some q → px_G (d + 6 + 1) (pX_RX10, prog_1_method_35_code, 8, (some .int)) 50 [some (.inr (.inl 0)), none, some (.inl x2), some (.inl x3), some (.inl x4), some (.inl x5), none, none] [] h q := by
  intro n
  induction n with
  | zero =>
    intro x2 x3 x4 x5 h q e
    cases e
  | succ n ih =>
    intro x2 x3 x4 x5 h q e
    exact px_blk_ok (d := d + 6) (M := (pX_RX10, prog_1_method_35_code, 8, (some .int))) (C := wu_years_orc) (code := wu_years_code) (ld := [105, 128]) (kl := [(105, fun ls st h => px_if (px_fit [10, 0, 1, 0, 1, 1, 0, 0] ls && px_fits [1, 1] st) (wu_years_105 (wu_years_50 n) (px_gi ls 2) (px_gi ls 4) (px_gi ls 5) (px_si st 0) (px_si st 1) h)), (128, fun ls st h => px_if (px_fit [10, 0, 1, 1, 1, 1, 0, 0] ls && px_fits [] st) (wu_years_128 (wu_years_50 n) (px_gi ls 2) (px_gi ls 3) (px_gi ls 4) (px_gi ls 5) h))]) (wu_years_orc_ok) pX_ok_RX10 wu_years_code_ok (px_k1 (px_ko (ts := [10, 0, 1, 0, 1, 1, 0, 0]) (ss := [1, 1]) fun ls st h q e => wu_years_105_ok ih _ _ _ _ _ _ _ e) (px_k1 (px_ko (ts := [10, 0, 1, 1, 1, 1, 0, 0]) (ss := []) fun ls st h q e => wu_years_128_ok ih _ _ _ _ _ _ e) px_k0)) 89 50 _ _ h q e
set_option maxRecDepth 200000 in
theorem wu_years_ok {d : Nat} {x1 : Int32} {x2 : Int32} {h : pH} {q : Int32 × pH} (e : wu_years x1 x2 h = some q) : px_Con (d + 7) 153 [.inr (.inl 0), .inl x1, .inl x2] h q :=
  px_con (X := pX_RX10) (b := prog_1_method_35_code) (nL := 8) (rt := (some .int)) rfl rfl (Nat.le_of_ble_eq_true rfl) rfl (px_blk_ok (d := d + 6) (M := (pX_RX10, prog_1_method_35_code, 8, (some .int))) (C := wu_years_orc) (code := wu_years_code) (ld := [50, 11]) (kl := [(50, fun ls st h => px_if (px_fit [10, 0, 1, 1, 1, 1, 0, 0] ls && px_fits [] st) (wu_years_50 px_F (px_gi ls 2) (px_gi ls 3) (px_gi ls 4) (px_gi ls 5) h)), (11, fun ls st h => px_if (px_fit [0, 0, 0, 0, 0, 0, 0, 0] ls && px_fits [] st) (wu_years_11 h))]) (wu_years_orc_ok) pX_ok_RX10 wu_years_code_ok (px_k1 (px_ko (ts := [10, 0, 1, 1, 1, 1, 0, 0]) (ss := []) fun ls st h q e => wu_years_50_ok _ _ _ _ _ _ _ e) (px_k1 (px_ko (ts := [0, 0, 0, 0, 0, 0, 0, 0]) (ss := []) fun ls st h q e => wu_years_11_ok _ _ e) px_k0)) 89 0 _ _ _ q e)
/-! WordsUnsaid.keep(I)Z -/
noncomputable def wu_keep (x1 : Int32) (h : pH) : pR :=
  px_bind (me_keepUnder x1 h) fun z1 h2 =>
  px_bz z1 h2
def wu_keep_code : pCode := [(0, .aload_n 0, 1), (1, .getfield 61, 3), (4, .iload_n 1, 1), (5, .aload_n 0, 1), (6, .getfield 19, 3), (9, .invokevirtual 426, 3), (12, .ireturn, 1)]
set_option maxRecDepth 200000 in
theorem wu_keep_code_ok : px_code prog_1_method_36_code wu_keep_code = true := by decide +kernel
noncomputable def wu_keep_orc : pC := px_orc [(58, fun a h => match a with
    | [.inr (.inl 41), .inl v1, .inr (.inl 3)] => me_keepUnder v1 h
    | _ => none)]
theorem wu_keep_orc_ok {d : Nat} : px_Or (d + 3) (wu_keep_orc) := px_orc_ok (by
  refine px_o1 (fun a h q e => by
    dsimp only at e
    split at e
    · exact me_keepUnder_ok (d := d + 0) e
    · cases e) ?_
  exact px_o0)
set_option maxRecDepth 200000 in
theorem wu_keep_ok {d : Nat} {x1 : Int32} {h : pH} {q : Int32 × pH} (e : wu_keep x1 h = some q) : px_Con (d + 4) 154 [.inr (.inl 0), .inl x1] h q :=
  px_con (X := pX_RX10) (b := prog_1_method_36_code) (nL := 2) (rt := (some .boolean)) rfl rfl (Nat.le_of_ble_eq_true rfl) rfl (px_blk_ok (d := d + 3) (M := (pX_RX10, prog_1_method_36_code, 2, (some .boolean))) (C := wu_keep_orc) (code := wu_keep_code) (ld := []) (kl := []) (wu_keep_orc_ok) pX_ok_RX10 wu_keep_code_ok (px_k0) 12 0 _ _ _ q e)
/-! WordsUnsaid.again(I)Z -/
noncomputable def wu_again (x1 : Int32) (h : pH) : pR :=
  px_bind (me_bringBack x1 h) fun z1 h2 =>
  px_bz z1 h2
def wu_again_code : pCode := [(0, .aload_n 0, 1), (1, .getfield 61, 3), (4, .iload_n 1, 1), (5, .aload_n 0, 1), (6, .getfield 19, 3), (9, .invokevirtual 430, 3), (12, .ireturn, 1)]
set_option maxRecDepth 200000 in
theorem wu_again_code_ok : px_code prog_1_method_37_code wu_again_code = true := by decide +kernel
noncomputable def wu_again_orc : pC := px_orc [(59, fun a h => match a with
    | [.inr (.inl 41), .inl v1, .inr (.inl 3)] => me_bringBack v1 h
    | _ => none)]
theorem wu_again_orc_ok {d : Nat} : px_Or (d + 3) (wu_again_orc) := px_orc_ok (by
  refine px_o1 (fun a h q e => by
    dsimp only at e
    split at e
    · exact me_bringBack_ok (d := d + 0) e
    · cases e) ?_
  exact px_o0)
set_option maxRecDepth 200000 in
theorem wu_again_ok {d : Nat} {x1 : Int32} {h : pH} {q : Int32 × pH} (e : wu_again x1 h = some q) : px_Con (d + 4) 155 [.inr (.inl 0), .inl x1] h q :=
  px_con (X := pX_RX10) (b := prog_1_method_37_code) (nL := 2) (rt := (some .boolean)) rfl rfl (Nat.le_of_ble_eq_true rfl) rfl (px_blk_ok (d := d + 3) (M := (pX_RX10, prog_1_method_37_code, 2, (some .boolean))) (C := wu_again_orc) (code := wu_again_code) (ld := []) (kl := []) (wu_again_orc_ok) pX_ok_RX10 wu_again_code_ok (px_k0) 12 0 _ _ _ q e)
/-! WordsUnsaid.count(I)I -/
noncomputable def wu_count (x1 : Int32) (h : pH) : pR :=
  if x1 = px_c 0 then
    some (h 3 10, h)
  else
  if x1 = px_c 1 then
    some (h 3 11, h)
  else
  if x1 = px_c 2 then
    some (h 14 2, h)
  else
  if x1 = px_c 3 then
    some (h 14 3, h)
  else
  if x1 = px_c 4 then
    px_bind (hs_peopleAt (px_c 0) h) fun z1 h2 =>
    some (z1, h2)
  else
  if x1 = px_c 5 then
    px_bind (hs_peopleAt (px_c 1) h) fun z3 h4 =>
    some (z3, h4)
  else
  if x1 = px_c 6 then
    px_bind (hs_onIslets h) fun z5 h6 =>
    some (z5, h6)
  else
  if x1 = px_c 7 then
    px_bind (hs_saidThings h) fun z7 h8 =>
    some (z7, h8)
  else
  if x1 = px_c 8 then
    px_bind (hs_wordsLeft (((px_c 1) <<< ((h 3 11) &&& 31)) - (px_c 1)) h) fun z9 h10 =>
    some (z9, h10)
  else
  if x1 = px_c 9 then
    some (h 41 2, h)
  else
  if x1 = px_c 10 then
    some (h 45 1, h)
  else
  if x1 = px_c 11 then
    some (h 1 1, h)
  else
    some (px_c (-1), h)
def wu_count_code : pCode := [(0, .iload_n 1, 1), (1, .tableswitch (172) (0) (11) #[63, 71, 79, 87, 95, 104, 113, 121, 129, 148, 156, 164], 63), (64, .aload_n 0, 1), (65, .getfield 19, 3), (68, .getfield 364, 3), (71, .ireturn, 1), (72, .aload_n 0, 1), (73, .getfield 19, 3), (76, .getfield 187, 3), (79, .ireturn, 1), (80, .aload_n 0, 1), (81, .getfield 26, 3), (84, .getfield 433, 3), (87, .ireturn, 1), (88, .aload_n 0, 1), (89, .getfield 26, 3), (92, .getfield 434, 3), (95, .ireturn, 1), (96, .aload_n 0, 1), (97, .getfield 19, 3), (100, .iconst 0, 1), (101, .invokevirtual 370, 3), (104, .ireturn, 1), (105, .aload_n 0, 1), (106, .getfield 19, 3), (109, .iconst 1, 1), (110, .invokevirtual 370, 3), (113, .ireturn, 1), (114, .aload_n 0, 1), (115, .getfield 19, 3), (118, .invokevirtual 97, 3), (121, .ireturn, 1), (122, .aload_n 0, 1), (123, .getfield 19, 3), (126, .invokevirtual 420, 3), (129, .ireturn, 1), (130, .aload_n 0, 1), (131, .getfield 19, 3), (134, .iconst 1, 1), (135, .aload_n 0, 1), (136, .getfield 19, 3), (139, .getfield 187, 3), (142, .ishl, 1), (143, .iconst 1, 1), (144, .isub, 1), (145, .invokevirtual 141, 3), (148, .ireturn, 1), (149, .aload_n 0, 1), (150, .getfield 61, 3), (153, .getfield 260, 3), (156, .ireturn, 1), (157, .aload_n 0, 1), (158, .getfield 75, 3), (161, .getfield 435, 3), (164, .ireturn, 1), (165, .aload_n 0, 1), (166, .getfield 10, 3), (169, .getfield 90, 3), (172, .ireturn, 1), (173, .iconst (-1), 1), (174, .ireturn, 1)]
set_option maxRecDepth 200000 in
theorem wu_count_code_ok : px_code prog_1_method_38_code wu_count_code = true := by decide +kernel
noncomputable def wu_count_orc : pC := px_orc [(27, fun a h => match a with
    | [.inr (.inl 3), .inl v1] => hs_peopleAt v1 h
    | _ => none), (28, fun a h => match a with
    | [.inr (.inl 3)] => hs_onIslets h
    | _ => none), (33, fun a h => match a with
    | [.inr (.inl 3)] => hs_saidThings h
    | _ => none), (36, fun a h => match a with
    | [.inr (.inl 3), .inl v1] => hs_wordsLeft v1 h
    | _ => none)]
theorem wu_count_orc_ok {d : Nat} : px_Or (d + 3) (wu_count_orc) := px_orc_ok (by
  refine px_o1 (fun a h q e => by
    dsimp only at e
    split at e
    · exact hs_peopleAt_ok (d := d + 1) e
    · cases e) ?_
  refine px_o1 (fun a h q e => by
    dsimp only at e
    split at e
    · exact hs_onIslets_ok (d := d + 0) e
    · cases e) ?_
  refine px_o1 (fun a h q e => by
    dsimp only at e
    split at e
    · exact hs_saidThings_ok (d := d + 1) e
    · cases e) ?_
  refine px_o1 (fun a h q e => by
    dsimp only at e
    split at e
    · exact hs_wordsLeft_ok (d := d + 1) e
    · cases e) ?_
  exact px_o0)
set_option maxRecDepth 200000 in
theorem wu_count_ok {d : Nat} {x1 : Int32} {h : pH} {q : Int32 × pH} (e : wu_count x1 h = some q) : px_Con (d + 4) 156 [.inr (.inl 0), .inl x1] h q :=
  px_con (X := pX_RX10) (b := prog_1_method_38_code) (nL := 2) (rt := (some .int)) rfl rfl (Nat.le_of_ble_eq_true rfl) rfl (px_blk_ok (d := d + 3) (M := (pX_RX10, prog_1_method_38_code, 2, (some .int))) (C := wu_count_orc) (code := wu_count_code) (ld := []) (kl := []) (wu_count_orc_ok) pX_ok_RX10 wu_count_code_ok (px_k0) 66 0 _ _ _ q e)
/-! WordsUnsaid.row(I)I -/
noncomputable def wu_row_15 (h : pH) : pR :=
  none
noncomputable def wu_row (x1 : Int32) (h : pH) : pR :=
  if x1 < 0 then
    wu_row_15 h
  else
    if x1 < (h 45 1) then
      px_bind (wu_at 46 x1 h) fun z1 h2 =>
      some (z1, h2)
    else
      wu_row_15 h
def wu_row_code : pCode := [(0, .iload_n 1, 1), (1, .ifCond .lt (14), 3), (4, .iload_n 1, 1), (5, .aload_n 0, 1), (6, .getfield 75, 3), (9, .getfield 435, 3), (12, .if_icmp .lt (14), 3), (15, .new 113, 3), (18, .dup, 1), (19, .ldc_w 436, 3), (22, .invokespecial 117, 3), (25, .athrow, 1), (26, .aload_n 0, 1), (27, .getfield 75, 3), (30, .getfield 438, 3), (33, .iload_n 1, 1), (34, .invokestatic 124, 3), (37, .ireturn, 1)]
set_option maxRecDepth 200000 in
theorem wu_row_code_ok : px_code prog_1_method_39_code wu_row_code = true := by decide +kernel
noncomputable def wu_row_orc : pC := px_orc [(158, fun a h => match a with
    | [.inr (.inl v0), .inl v1] => wu_at v0 v1 h
    | _ => none)]
theorem wu_row_orc_ok {d : Nat} : px_Or (d + 1) (wu_row_orc) := px_orc_ok (by
  refine px_o1 (fun a h q e => by
    dsimp only at e
    split at e
    · exact wu_at_ok (d := d + 0) e
    · cases e) ?_
  exact px_o0)
set_option maxRecDepth 200000 in
theorem wu_row_15_ok {d : Nat} : ∀ (h : pH) (q : Int32 × pH), wu_row_15 h = some q → px_G (d + 1 + 1) (pX_RX10, prog_1_method_39_code, 2, (some .int)) 15 [none, none] [] h q := by
  intro h q e
  exact px_blk_ok (d := d + 1) (M := (pX_RX10, prog_1_method_39_code, 2, (some .int))) (C := wu_row_orc) (code := wu_row_code) (ld := []) (kl := []) (wu_row_orc_ok) pX_ok_RX10 wu_row_code_ok (px_k0) 23 15 _ _ h q e
set_option maxRecDepth 200000 in
theorem wu_row_ok {d : Nat} {x1 : Int32} {h : pH} {q : Int32 × pH} (e : wu_row x1 h = some q) : px_Con (d + 2) 157 [.inr (.inl 0), .inl x1] h q :=
  px_con (X := pX_RX10) (b := prog_1_method_39_code) (nL := 2) (rt := (some .int)) rfl rfl (Nat.le_of_ble_eq_true rfl) rfl (px_blk_ok (d := d + 1) (M := (pX_RX10, prog_1_method_39_code, 2, (some .int))) (C := wu_row_orc) (code := wu_row_code) (ld := [15]) (kl := [(15, fun ls st h => px_if (px_fit [0, 0] ls && px_fits [] st) (wu_row_15 h))]) (wu_row_orc_ok) pX_ok_RX10 wu_row_code_ok (px_k1 (px_ko (ts := [0, 0]) (ss := []) fun ls st h q e => wu_row_15_ok _ _ e) px_k0) 23 0 _ _ _ q e)
