/-! Crossing, Walk -/
/-! WordsUnsaid$Crossing.load(III)V -/
noncomputable def cr_load (x1 : Int32) (x2 : Int32) (x3 : Int32) (h : pH) : pR :=
  let h1 := px_w h 22 6 x1
  let h2 := px_w h1 22 7 x2
  let h3 := px_w h2 22 8 x3
  px_bind (rv_between x2 x3 h3) fun z4 h5 =>
  let h6 := px_w h5 22 9 z4
  let h7 := px_w h6 22 5 (px_c 0)
  some (0, h7)
def cr_load_code : pCode := [(0, .aload_n 0, 1), (1, .iload_n 1, 1), (2, .putfield 54, 3), (5, .aload_n 0, 1), (6, .iload_n 2, 1), (7, .putfield 58, 3), (10, .aload_n 0, 1), (11, .iload_n 3, 1), (12, .putfield 61, 3), (15, .aload_n 0, 1), (16, .aload_n 0, 1), (17, .getfield 15, 3), (20, .iload_n 2, 1), (21, .iload_n 3, 1), (22, .invokevirtual 64, 3), (25, .putfield 70, 3), (28, .aload_n 0, 1), (29, .iconst 0, 1), (30, .putfield 73, 3), (33, .return_, 1)]
set_option maxRecDepth 200000 in
theorem cr_load_code_ok : px_code prog_3_method_3_code cr_load_code = true := by decide +kernel
noncomputable def cr_load_orc : pC := px_orc [(64, fun a h => match a with
    | [.inr (.inl 14), .inl v1, .inl v2] => rv_between v1 v2 h
    | _ => none)]
theorem cr_load_orc_ok {d : Nat} : px_Or (d + 3) (cr_load_orc) := px_orc_ok (by
  refine px_o1 (fun a h q e => by
    dsimp only at e
    split at e
    · exact rv_between_ok (d := d + 0) e
    · cases e) ?_
  exact px_o0)
set_option maxRecDepth 200000 in
theorem cr_load_ok {d : Nat} {x1 : Int32} {x2 : Int32} {x3 : Int32} {h : pH} {q : Int32 × pH} (e : cr_load x1 x2 x3 h = some q) : px_Con (d + 4) 6 [.inr (.inl 22), .inl x1, .inl x2, .inl x3] h q :=
  px_con (X := pX_RX1) (b := prog_3_method_3_code) (nL := 4) (rt := none) rfl rfl (Nat.le_of_ble_eq_true rfl) rfl (px_blk_ok (d := d + 3) (M := (pX_RX1, prog_3_method_3_code, 4, none)) (C := cr_load_orc) (code := cr_load_code) (ld := []) (kl := []) (cr_load_orc_ok) pX_ok_RX1 cr_load_code_ok (px_k0) 25 0 _ _ _ q e)
/-! WordsUnsaid$Crossing.begin(III)Z -/
noncomputable def cr_begin_20 (h : pH) : pR :=
  px_bz (px_c 0) h
noncomputable def cr_begin_82 (h : pH) : pR :=
  px_bz (px_c 0) h
noncomputable def cr_begin_100 (x3 : Int32) (x4 : Int32) (s0 : Int32) (s1 : Int32) (h : pH) : pR :=
  px_bind (cr_load (s1 ||| s0) x4 x3 h) fun _ h2 =>
  px_bz (px_c 1) h2
noncomputable def cr_begin_84 (x1 : Int32) (x2 : Int32) (x3 : Int32) (x4 : Int32) (x5 : Int32) (h : pH) : pR :=
  if x5 = 0 then
    cr_begin_100 x3 x4 ((px_c 1) <<< (x2 &&& 31)) ((px_c 1) <<< (x1 &&& 31)) h
  else
    cr_begin_100 x3 x4 (px_c 0) ((px_c 1) <<< (x1 &&& 31)) h
noncomputable def cr_begin_45 (x1 : Int32) (x2 : Int32) (x3 : Int32) (x4 : Int32) (s0 : Int32) (h : pH) : pR :=
  if x4 = x3 then
    cr_begin_82 h
  else
    if s0 = 0 then
      px_bind (hs_areTwo x1 x2 h) fun z1 h2 =>
      if z1 = 0 then
        cr_begin_82 h2
      else
        px_bind (hs_areTogether x1 x2 h2) fun z3 h4 =>
        if z3 = 0 then
          cr_begin_82 h4
        else
          cr_begin_84 x1 x2 x3 x4 s0 h4
    else
      cr_begin_84 x1 x2 x3 x4 s0 h
noncomputable def cr_begin_22 (x1 : Int32) (x2 : Int32) (x3 : Int32) (h : pH) : pR :=
  px_bind (wu_at 5 x1 h) fun z1 h2 =>
  if x2 = (px_c (-1)) then
    cr_begin_45 x1 x2 x3 z1 (px_c 1) h2
  else
    cr_begin_45 x1 x2 x3 z1 (px_c 0) h2
noncomputable def cr_begin (x1 : Int32) (x2 : Int32) (x3 : Int32) (h : pH) : pR :=
  px_bind (hs_hasPerson x1 h) fun z1 h2 =>
  if z1 = 0 then
    cr_begin_20 h2
  else
    if x3 = 0 then
      cr_begin_22 x1 x2 x3 h2
    else
      if x3 = (px_c 1) then
        cr_begin_22 x1 x2 x3 h2
      else
        cr_begin_20 h2
def cr_begin_code : pCode := [(0, .aload_n 0, 1), (1, .getfield 9, 3), (4, .iload_n 1, 1), (5, .invokevirtual 30, 3), (8, .ifCond .eq (12), 3), (11, .iload_n 3, 1), (12, .ifCond .eq (10), 3), (15, .iload_n 3, 1), (16, .iconst 1, 1), (17, .if_icmp .eq (5), 3), (20, .iconst 0, 1), (21, .ireturn, 1), (22, .aload_n 0, 1), (23, .getfield 9, 3), (26, .getfield 36, 3), (29, .iload_n 1, 1), (30, .invokestatic 39, 3), (33, .istore 4, 2), (35, .iload_n 2, 1), (36, .iconst (-1), 1), (37, .if_icmp .ne (7), 3), (40, .iconst 1, 1), (41, .goto (4), 3), (44, .iconst 0, 1), (45, .istore 5, 2), (47, .iload 4, 2), (49, .iload_n 3, 1), (50, .if_icmp .eq (32), 3), (53, .iload 5, 2), (55, .ifCond .ne (29), 3), (58, .aload_n 0, 1), (59, .getfield 9, 3), (62, .iload_n 1, 1), (63, .iload_n 2, 1), (64, .invokevirtual 43, 3), (67, .ifCond .eq (15), 3), (70, .aload_n 0, 1), (71, .getfield 9, 3), (74, .iload_n 1, 1), (75, .iload_n 2, 1), (76, .invokevirtual 47, 3), (79, .ifCond .ne (5), 3), (82, .iconst 0, 1), (83, .ireturn, 1), (84, .aload_n 0, 1), (85, .iconst 1, 1), (86, .iload_n 1, 1), (87, .ishl, 1), (88, .iload 5, 2), (90, .ifCond .eq (7), 3), (93, .iconst 0, 1), (94, .goto (6), 3), (97, .iconst 1, 1), (98, .iload_n 2, 1), (99, .ishl, 1), (100, .ior, 1), (101, .iload 4, 2), (103, .iload_n 3, 1), (104, .invokevirtual 50, 3), (107, .iconst 1, 1), (108, .ireturn, 1)]
set_option maxRecDepth 200000 in
theorem cr_begin_code_ok : px_code prog_3_method_2_code cr_begin_code = true := by decide +kernel
noncomputable def cr_begin_orc : pC := px_orc [(6, fun a h => match a with
    | [.inr (.inl 22), .inl v1, .inl v2, .inl v3] => cr_load v1 v2 v3 h
    | _ => none), (40, fun a h => match a with
    | [.inr (.inl 3), .inl v1, .inl v2] => hs_areTwo v1 v2 h
    | _ => none), (41, fun a h => match a with
    | [.inr (.inl 3), .inl v1, .inl v2] => hs_areTogether v1 v2 h
    | _ => none), (158, fun a h => match a with
    | [.inr (.inl v0), .inl v1] => wu_at v0 v1 h
    | _ => none), (25, fun a h => match a with
    | [.inr (.inl 3), .inl v1] => hs_hasPerson v1 h
    | _ => none)]
theorem cr_begin_orc_ok {d : Nat} : px_Or (d + 4) (cr_begin_orc) := px_orc_ok (by
  refine px_o1 (fun a h q e => by
    dsimp only at e
    split at e
    · exact cr_load_ok (d := d + 0) e
    · cases e) ?_
  refine px_o1 (fun a h q e => by
    dsimp only at e
    split at e
    · exact hs_areTwo_ok (d := d + 2) e
    · cases e) ?_
  refine px_o1 (fun a h q e => by
    dsimp only at e
    split at e
    · exact hs_areTogether_ok (d := d + 2) e
    · cases e) ?_
  refine px_o1 (fun a h q e => by
    dsimp only at e
    split at e
    · exact wu_at_ok (d := d + 3) e
    · cases e) ?_
  refine px_o1 (fun a h q e => by
    dsimp only at e
    split at e
    · exact hs_hasPerson_ok (d := d + 3) e
    · cases e) ?_
  exact px_o0)
set_option maxRecDepth 200000 in
theorem cr_begin_20_ok {d : Nat} : ∀ (h : pH) (q : Int32 × pH), cr_begin_20 h = some q → px_G (d + 4 + 1) (pX_RX1, prog_3_method_2_code, 6, (some .boolean)) 20 [none, none, none, none, none, none] [] h q := by
  intro h q e
  exact px_blk_ok (d := d + 4) (M := (pX_RX1, prog_3_method_2_code, 6, (some .boolean))) (C := cr_begin_orc) (code := cr_begin_code) (ld := []) (kl := []) (cr_begin_orc_ok) pX_ok_RX1 cr_begin_code_ok (px_k0) 66 20 _ _ h q e
set_option maxRecDepth 200000 in
theorem cr_begin_82_ok {d : Nat} : ∀ (h : pH) (q : Int32 × pH), cr_begin_82 h = some q → px_G (d + 4 + 1) (pX_RX1, prog_3_method_2_code, 6, (some .boolean)) 82 [none, none, none, none, none, none] [] h q := by
  intro h q e
  exact px_blk_ok (d := d + 4) (M := (pX_RX1, prog_3_method_2_code, 6, (some .boolean))) (C := cr_begin_orc) (code := cr_begin_code) (ld := []) (kl := []) (cr_begin_orc_ok) pX_ok_RX1 cr_begin_code_ok (px_k0) 66 82 _ _ h q e
set_option maxRecDepth 200000 in
theorem cr_begin_100_ok {d : Nat} : ∀ (x3 : Int32) (x4 : Int32) (s0 : Int32) (s1 : Int32) (h : pH) (q : Int32 × pH), cr_begin_100 x3 x4 s0 s1 h = some q → px_G (d + 4 + 1) (pX_RX1, prog_3_method_2_code, 6, (some .boolean)) 100 [none, none, none, some (.inl x3), some (.inl x4), none] [.inl s0, .inl s1, .inr (.inl 22)] h q := by
  intro x3 x4 s0 s1 h q e
  exact px_blk_ok (d := d + 4) (M := (pX_RX1, prog_3_method_2_code, 6, (some .boolean))) (C := cr_begin_orc) (code := cr_begin_code) (ld := []) (kl := []) (cr_begin_orc_ok) pX_ok_RX1 cr_begin_code_ok (px_k0) 66 100 _ _ h q e
set_option maxRecDepth 200000 in
theorem cr_begin_84_ok {d : Nat} : ∀ (x1 : Int32) (x2 : Int32) (x3 : Int32) (x4 : Int32) (x5 : Int32) (h : pH) (q : Int32 × pH), cr_begin_84 x1 x2 x3 x4 x5 h = some q → px_G (d + 4 + 1) (pX_RX1, prog_3_method_2_code, 6, (some .boolean)) 84 [some (.inr (.inl 22)), some (.inl x1), some (.inl x2), some (.inl x3), some (.inl x4), some (.inl x5)] [] h q := by
  intro x1 x2 x3 x4 x5 h q e
  exact px_blk_ok (d := d + 4) (M := (pX_RX1, prog_3_method_2_code, 6, (some .boolean))) (C := cr_begin_orc) (code := cr_begin_code) (ld := [100]) (kl := [(100, fun ls st h => px_if (px_fit [0, 0, 0, 1, 1, 0] ls && px_fits [1, 1, 32] st) (cr_begin_100 (px_gi ls 3) (px_gi ls 4) (px_si st 0) (px_si st 1) h))]) (cr_begin_orc_ok) pX_ok_RX1 cr_begin_code_ok (px_k1 (px_ko (ts := [0, 0, 0, 1, 1, 0]) (ss := [1, 1, 32]) fun ls st h q e => cr_begin_100_ok _ _ _ _ _ _ e) px_k0) 66 84 _ _ h q e
set_option maxRecDepth 200000 in
theorem cr_begin_45_ok {d : Nat} : ∀ (x1 : Int32) (x2 : Int32) (x3 : Int32) (x4 : Int32) (s0 : Int32) (h : pH) (q : Int32 × pH), cr_begin_45 x1 x2 x3 x4 s0 h = some q → px_G (d + 4 + 1) (pX_RX1, prog_3_method_2_code, 6, (some .boolean)) 45 [some (.inr (.inl 22)), some (.inl x1), some (.inl x2), some (.inl x3), some (.inl x4), none] [.inl s0] h q := by
  intro x1 x2 x3 x4 s0 h q e
  exact px_blk_ok (d := d + 4) (M := (pX_RX1, prog_3_method_2_code, 6, (some .boolean))) (C := cr_begin_orc) (code := cr_begin_code) (ld := [84, 82]) (kl := [(84, fun ls st h => px_if (px_fit [32, 1, 1, 1, 1, 1] ls && px_fits [] st) (cr_begin_84 (px_gi ls 1) (px_gi ls 2) (px_gi ls 3) (px_gi ls 4) (px_gi ls 5) h)), (82, fun ls st h => px_if (px_fit [0, 0, 0, 0, 0, 0] ls && px_fits [] st) (cr_begin_82 h))]) (cr_begin_orc_ok) pX_ok_RX1 cr_begin_code_ok (px_k1 (px_ko (ts := [32, 1, 1, 1, 1, 1]) (ss := []) fun ls st h q e => cr_begin_84_ok _ _ _ _ _ _ _ e) (px_k1 (px_ko (ts := [0, 0, 0, 0, 0, 0]) (ss := []) fun ls st h q e => cr_begin_82_ok _ _ e) px_k0)) 66 45 _ _ h q e
set_option maxRecDepth 200000 in
theorem cr_begin_22_ok {d : Nat} : ∀ (x1 : Int32) (x2 : Int32) (x3 : Int32) (h : pH) (q : Int32 × pH), cr_begin_22 x1 x2 x3 h = some q → px_G (d + 4 + 1) (pX_RX1, prog_3_method_2_code, 6, (some .boolean)) 22 [some (.inr (.inl 22)), some (.inl x1), some (.inl x2), some (.inl x3), none, none] [] h q := by
  intro x1 x2 x3 h q e
  exact px_blk_ok (d := d + 4) (M := (pX_RX1, prog_3_method_2_code, 6, (some .boolean))) (C := cr_begin_orc) (code := cr_begin_code) (ld := [45]) (kl := [(45, fun ls st h => px_if (px_fit [32, 1, 1, 1, 1, 0] ls && px_fits [1] st) (cr_begin_45 (px_gi ls 1) (px_gi ls 2) (px_gi ls 3) (px_gi ls 4) (px_si st 0) h))]) (cr_begin_orc_ok) pX_ok_RX1 cr_begin_code_ok (px_k1 (px_ko (ts := [32, 1, 1, 1, 1, 0]) (ss := [1]) fun ls st h q e => cr_begin_45_ok _ _ _ _ _ _ _ e) px_k0) 66 22 _ _ h q e
set_option maxRecDepth 200000 in
theorem cr_begin_ok {d : Nat} {x1 : Int32} {x2 : Int32} {x3 : Int32} {h : pH} {q : Int32 × pH} (e : cr_begin x1 x2 x3 h = some q) : px_Con (d + 5) 5 [.inr (.inl 22), .inl x1, .inl x2, .inl x3] h q :=
  px_con (X := pX_RX1) (b := prog_3_method_2_code) (nL := 6) (rt := (some .boolean)) rfl rfl (Nat.le_of_ble_eq_true rfl) rfl (px_blk_ok (d := d + 4) (M := (pX_RX1, prog_3_method_2_code, 6, (some .boolean))) (C := cr_begin_orc) (code := cr_begin_code) (ld := [22, 20]) (kl := [(22, fun ls st h => px_if (px_fit [32, 1, 1, 1, 0, 0] ls && px_fits [] st) (cr_begin_22 (px_gi ls 1) (px_gi ls 2) (px_gi ls 3) h)), (20, fun ls st h => px_if (px_fit [0, 0, 0, 0, 0, 0] ls && px_fits [] st) (cr_begin_20 h))]) (cr_begin_orc_ok) pX_ok_RX1 cr_begin_code_ok (px_k1 (px_ko (ts := [32, 1, 1, 1, 0, 0]) (ss := []) fun ls st h q e => cr_begin_22_ok _ _ _ _ _ e) (px_k1 (px_ko (ts := [0, 0, 0, 0, 0, 0]) (ss := []) fun ls st h q e => cr_begin_20_ok _ _ e) px_k0)) 66 0 _ _ _ q e)
/-! WordsUnsaid$Crossing.take(I)Z -/
noncomputable def cr_take_38 (h : pH) : pR :=
  px_bz (px_c 0) h
noncomputable def cr_take_42 : Nat → Int32 → Int32 → pH → pR
  | 0, _, _, _ => none
  | n + 1, x1, x2, h =>
    if (h 22 5) ≤ x2 then
      px_bind (wu_put 23 (h 22 5) x1 h) fun _ h2 =>
      let h3 := px_w h2 22 5 ((h2 22 5) + (px_c 1))
      px_bz (px_c 1) h3
    else
      px_bind (wu_at 23 x2 h) fun z4 h5 =>
      if z4 = x1 then
        px_bz (px_c 0) h5
      else
        cr_take_42 n x1 (x2 + px_c 1) h5
noncomputable def cr_take (x1 : Int32) (h : pH) : pR :=
  if (px_c 6) ≤ (h 22 5) then
    cr_take_38 h
  else
    px_bind (hs_isUnsaidOf (h 22 6) x1 h) fun z1 h2 =>
    if z1 = 0 then
      cr_take_38 h2
    else
      px_bind (wu_at 8 x1 h2) fun z3 h4 =>
      if z3 = 0 then
        cr_take_38 h4
      else
        cr_take_42 px_F x1 (px_c 0) h4
def cr_take_code : pCode := [(0, .aload_n 0, 1), (1, .getfield 73, 3), (4, .bipush (6), 2), (6, .if_icmp .ge (32), 3), (9, .aload_n 0, 1), (10, .getfield 9, 3), (13, .aload_n 0, 1), (14, .getfield 54, 3), (17, .iload_n 1, 1), (18, .invokevirtual 76, 3), (21, .ifCond .eq (17), 3), (24, .aload_n 0, 1), (25, .getfield 9, 3), (28, .getfield 79, 3), (31, .iload_n 1, 1), (32, .invokestatic 39, 3), (35, .ifCond .ne (5), 3), (38, .iconst 0, 1), (39, .ireturn, 1), (40, .iconst 0, 1), (41, .istore_n 2, 1), (42, .iload_n 2, 1), (43, .aload_n 0, 1), (44, .getfield 73, 3), (47, .if_icmp .ge (23), 3), (50, .aload_n 0, 1), (51, .getfield 23, 3), (54, .iload_n 2, 1), (55, .invokestatic 39, 3), (58, .iload_n 1, 1), (59, .if_icmp .ne (5), 3), (62, .iconst 0, 1), (63, .ireturn, 1), (64, .iinc 2 (1), 3), (67, .goto (-25), 3), (70, .aload_n 0, 1), (71, .getfield 23, 3), (74, .aload_n 0, 1), (75, .getfield 73, 3), (78, .iload_n 1, 1), (79, .invokestatic 82, 3), (82, .aload_n 0, 1), (83, .dup, 1), (84, .getfield 73, 3), (87, .iconst 1, 1), (88, .iadd, 1), (89, .putfield 73, 3), (92, .iconst 1, 1), (93, .ireturn, 1)]
set_option maxRecDepth 200000 in
theorem cr_take_code_ok : px_code prog_3_method_4_code cr_take_code = true := by decide +kernel
noncomputable def cr_take_orc : pC := px_orc [(159, fun a h => match a with
    | [.inr (.inl v0), .inl v1, .inl v2] => wu_put v0 v1 v2 h
    | _ => none), (158, fun a h => match a with
    | [.inr (.inl v0), .inl v1] => wu_at v0 v1 h
    | _ => none), (31, fun a h => match a with
    | [.inr (.inl 3), .inl v1, .inl v2] => hs_isUnsaidOf v1 v2 h
    | _ => none)]
theorem cr_take_orc_ok {d : Nat} : px_Or (d + 2) (cr_take_orc) := px_orc_ok (by
  refine px_o1 (fun a h q e => by
    dsimp only at e
    split at e
    · exact wu_put_ok (d := d + 1) e
    · cases e) ?_
  refine px_o1 (fun a h q e => by
    dsimp only at e
    split at e
    · exact wu_at_ok (d := d + 1) e
    · cases e) ?_
  refine px_o1 (fun a h q e => by
    dsimp only at e
    split at e
    · exact hs_isUnsaidOf_ok (d := d + 0) e
    · cases e) ?_
  exact px_o0)
set_option maxRecDepth 200000 in
theorem cr_take_38_ok {d : Nat} : ∀ (h : pH) (q : Int32 × pH), cr_take_38 h = some q → px_G (d + 2 + 1) (pX_RX1, prog_3_method_4_code, 3, (some .boolean)) 38 [none, none, none] [] h q := by
  intro h q e
  exact px_blk_ok (d := d + 2) (M := (pX_RX1, prog_3_method_4_code, 3, (some .boolean))) (C := cr_take_orc) (code := cr_take_code) (ld := []) (kl := []) (cr_take_orc_ok) pX_ok_RX1 cr_take_code_ok (px_k0) 54 38 _ _ h q e
set_option maxRecDepth 200000 in
theorem cr_take_42_ok {d : Nat} : ∀ (n : Nat) (x1 : Int32) (x2 : Int32) (h : pH) (q : Int32 × pH), cr_take_42 n x1 x2 h = some q → px_G (d + 2 + 1) (pX_RX1, prog_3_method_4_code, 3, (some .boolean)) 42 [some (.inr (.inl 22)), some (.inl x1), some (.inl x2)] [] h q := by
  intro n
  induction n with
  | zero =>
    intro x1 x2 h q e
    cases e
  | succ n ih =>
    intro x1 x2 h q e
    exact px_blk_ok (d := d + 2) (M := (pX_RX1, prog_3_method_4_code, 3, (some .boolean))) (C := cr_take_orc) (code := cr_take_code) (ld := [42]) (kl := [(42, fun ls st h => px_if (px_fit [32, 1, 1] ls && px_fits [] st) (cr_take_42 n (px_gi ls 1) (px_gi ls 2) h))]) (cr_take_orc_ok) pX_ok_RX1 cr_take_code_ok (px_k1 (px_ko (ts := [32, 1, 1]) (ss := []) fun ls st h q e => ih _ _ _ _ e) px_k0) 54 42 _ _ h q e
set_option maxRecDepth 200000 in
theorem cr_take_ok {d : Nat} {x1 : Int32} {h : pH} {q : Int32 × pH} (e : cr_take x1 h = some q) : px_Con (d + 3) 7 [.inr (.inl 22), .inl x1] h q :=
  px_con (X := pX_RX1) (b := prog_3_method_4_code) (nL := 3) (rt := (some .boolean)) rfl rfl (Nat.le_of_ble_eq_true rfl) rfl (px_blk_ok (d := d + 2) (M := (pX_RX1, prog_3_method_4_code, 3, (some .boolean))) (C := cr_take_orc) (code := cr_take_code) (ld := [42, 38]) (kl := [(42, fun ls st h => px_if (px_fit [32, 1, 1] ls && px_fits [] st) (cr_take_42 px_F (px_gi ls 1) (px_gi ls 2) h)), (38, fun ls st h => px_if (px_fit [0, 0, 0] ls && px_fits [] st) (cr_take_38 h))]) (cr_take_orc_ok) pX_ok_RX1 cr_take_code_ok (px_k1 (px_ko (ts := [32, 1, 1]) (ss := []) fun ls st h q e => cr_take_42_ok _ _ _ _ _ e) (px_k1 (px_ko (ts := [0, 0, 0]) (ss := []) fun ls st h q e => cr_take_38_ok _ _ e) px_k0)) 54 0 _ _ _ q e)
/-! WordsUnsaid$Crossing.hasWords()Z -/
noncomputable def cr_hasWords_52 (s0 : Int32) (h : pH) : pR :=
  px_bz s0 h
noncomputable def cr_hasWords_4 : Nat → Int32 → Int32 → pH → pR
  | 0, _, _, _ => none
  | n + 1, x1, x2, h =>
    if (h 22 5) ≤ x2 then
      if x1 < (h 22 9) then
        cr_hasWords_52 (px_c 0) h
      else
        cr_hasWords_52 (px_c 1) h
    else
      px_bind (wu_at 23 x2 h) fun z1 h2 =>
      px_bind (wu_at 8 z1 h2) fun z3 h4 =>
      let y1_5 := x1 + z3
      cr_hasWords_4 n y1_5 (x2 + px_c 1) h4
noncomputable def cr_hasWords (h : pH) : pR :=
  cr_hasWords_4 px_F (px_c 0) (px_c 0) h
def cr_hasWords_code : pCode := [(0, .iconst 0, 1), (1, .istore_n 1, 1), (2, .iconst 0, 1), (3, .istore_n 2, 1), (4, .iload_n 2, 1), (5, .aload_n 0, 1), (6, .getfield 73, 3), (9, .if_icmp .ge (30), 3), (12, .iload_n 1, 1), (13, .aload_n 0, 1), (14, .getfield 9, 3), (17, .getfield 79, 3), (20, .aload_n 0, 1), (21, .getfield 23, 3), (24, .iload_n 2, 1), (25, .invokestatic 39, 3), (28, .invokestatic 39, 3), (31, .iadd, 1), (32, .istore_n 1, 1), (33, .iinc 2 (1), 3), (36, .goto (-32), 3), (39, .iload_n 1, 1), (40, .aload_n 0, 1), (41, .getfield 70, 3), (44, .if_icmp .lt (7), 3), (47, .iconst 1, 1), (48, .goto (4), 3), (51, .iconst 0, 1), (52, .ireturn, 1)]
set_option maxRecDepth 200000 in
theorem cr_hasWords_code_ok : px_code prog_3_method_5_code cr_hasWords_code = true := by decide +kernel
noncomputable def cr_hasWords_orc : pC := px_orc [(158, fun a h => match a with
    | [.inr (.inl v0), .inl v1] => wu_at v0 v1 h
    | _ => none)]
theorem cr_hasWords_orc_ok {d : Nat} : px_Or (d + 1) (cr_hasWords_orc) := px_orc_ok (by
  refine px_o1 (fun a h q e => by
    dsimp only at e
    split at e
    · exact wu_at_ok (d := d + 0) e
    · cases e) ?_
  exact px_o0)
set_option maxRecDepth 200000 in
theorem cr_hasWords_52_ok {d : Nat} : ∀ (s0 : Int32) (h : pH) (q : Int32 × pH), cr_hasWords_52 s0 h = some q → px_G (d + 1 + 1) (pX_RX1, prog_3_method_5_code, 3, (some .boolean)) 52 [none, none, none] [.inl s0] h q := by
  intro s0 h q e
  exact px_blk_ok (d := d + 1) (M := (pX_RX1, prog_3_method_5_code, 3, (some .boolean))) (C := cr_hasWords_orc) (code := cr_hasWords_code) (ld := []) (kl := []) (cr_hasWords_orc_ok) pX_ok_RX1 cr_hasWords_code_ok (px_k0) 34 52 _ _ h q e
set_option maxRecDepth 200000 in
theorem cr_hasWords_4_ok {d : Nat} : ∀ (n : Nat) (x1 : Int32) (x2 : Int32) (h : pH) (q : Int32 × pH), cr_hasWords_4 n x1 x2 h = some q → px_G (d + 1 + 1) (pX_RX1, prog_3_method_5_code, 3, (some .boolean)) 4 [some (.inr (.inl 22)), some (.inl x1), some (.inl x2)] [] h q := by
  intro n
  induction n with
  | zero =>
    intro x1 x2 h q e
    cases e
  | succ n ih =>
    intro x1 x2 h q e
    exact px_blk_ok (d := d + 1) (M := (pX_RX1, prog_3_method_5_code, 3, (some .boolean))) (C := cr_hasWords_orc) (code := cr_hasWords_code) (ld := [4, 52]) (kl := [(4, fun ls st h => px_if (px_fit [32, 1, 1] ls && px_fits [] st) (cr_hasWords_4 n (px_gi ls 1) (px_gi ls 2) h)), (52, fun ls st h => px_if (px_fit [0, 0, 0] ls && px_fits [1] st) (cr_hasWords_52 (px_si st 0) h))]) (cr_hasWords_orc_ok) pX_ok_RX1 cr_hasWords_code_ok (px_k1 (px_ko (ts := [32, 1, 1]) (ss := []) fun ls st h q e => ih _ _ _ _ e) (px_k1 (px_ko (ts := [0, 0, 0]) (ss := [1]) fun ls st h q e => cr_hasWords_52_ok _ _ _ e) px_k0)) 34 4 _ _ h q e
set_option maxRecDepth 200000 in
theorem cr_hasWords_ok {d : Nat} {h : pH} {q : Int32 × pH} (e : cr_hasWords h = some q) : px_Con (d + 2) 8 [.inr (.inl 22)] h q :=
  px_con (X := pX_RX1) (b := prog_3_method_5_code) (nL := 3) (rt := (some .boolean)) rfl rfl (Nat.le_of_ble_eq_true rfl) rfl (px_blk_ok (d := d + 1) (M := (pX_RX1, prog_3_method_5_code, 3, (some .boolean))) (C := cr_hasWords_orc) (code := cr_hasWords_code) (ld := [4]) (kl := [(4, fun ls st h => px_if (px_fit [32, 1, 1] ls && px_fits [] st) (cr_hasWords_4 px_F (px_gi ls 1) (px_gi ls 2) h))]) (cr_hasWords_orc_ok) pX_ok_RX1 cr_hasWords_code_ok (px_k1 (px_ko (ts := [32, 1, 1]) (ss := []) fun ls st h q e => cr_hasWords_4_ok _ _ _ _ _ e) px_k0) 34 0 _ _ _ q e)
/-! WordsUnsaid$Crossing.consider(I)V -/
noncomputable def cr_consider_80 (s0 : Int32) (h : pH) : pR :=
  let h1 := px_w h 17 14 s0
  some (0, h1)
noncomputable def cr_consider (x1 : Int32) (h : pH) : pR :=
  px_bind (wu_at 9 x1 h) fun z1 h2 =>
  let h3 := px_w h2 17 8 z1
  px_bind (wu_at 10 x1 h3) fun z4 h5 =>
  let h6 := px_w h5 17 13 z4
  px_bind (jn_bitCount (h6 22 6) h6) fun z7 h8 =>
  let h9 := px_w h8 17 12 z7
  px_bind (wu_at 11 x1 h9) fun z10 h11 =>
  px_bind (wu_has (h9 22 6) z10 h11) fun z12 h13 =>
  if z12 = 0 then
    cr_consider_80 (px_c 0) h13
  else
    cr_consider_80 (px_c 1) h13
def cr_consider_code : pCode := [(0, .aload_n 0, 1), (1, .getfield 19, 3), (4, .aload_n 0, 1), (5, .getfield 9, 3), (8, .getfield 114, 3), (11, .iload_n 1, 1), (12, .invokestatic 39, 3), (15, .putfield 117, 3), (18, .aload_n 0, 1), (19, .getfield 19, 3), (22, .aload_n 0, 1), (23, .getfield 9, 3), (26, .getfield 122, 3), (29, .iload_n 1, 1), (30, .invokestatic 39, 3), (33, .putfield 125, 3), (36, .aload_n 0, 1), (37, .getfield 19, 3), (40, .aload_n 0, 1), (41, .getfield 54, 3), (44, .invokestatic 128, 3), (47, .putfield 134, 3), (50, .aload_n 0, 1), (51, .getfield 19, 3), (54, .aload_n 0, 1), (55, .getfield 54, 3), (58, .aload_n 0, 1), (59, .getfield 9, 3), (62, .getfield 135, 3), (65, .iload_n 1, 1), (66, .invokestatic 39, 3), (69, .invokestatic 138, 3), (72, .ifCond .eq (7), 3), (75, .iconst 1, 1), (76, .goto (4), 3), (79, .iconst 0, 1), (80, .putfield 141, 3), (83, .return_, 1)]
set_option maxRecDepth 200000 in
theorem cr_consider_code_ok : px_code prog_3_method_8_code cr_consider_code = true := by decide +kernel
noncomputable def cr_consider_orc : pC := px_orc [(158, fun a h => match a with
    | [.inr (.inl v0), .inl v1] => wu_at v0 v1 h
    | _ => none), (279, fun a h => match a with
    | [.inl v0] => jn_bitCount v0 h
    | _ => none), (160, fun a h => match a with
    | [.inl v0, .inl v1] => wu_has v0 v1 h
    | _ => none)]
theorem cr_consider_orc_ok {d : Nat} : px_Or (d + 1) (cr_consider_orc) := px_orc_ok (by
  refine px_o1 (fun a h q e => by
    dsimp only at e
    split at e
    · exact wu_at_ok (d := d + 0) e
    · cases e) ?_
  refine px_o1 (fun a h q e => by
    dsimp only at e
    split at e
    · exact jn_bitCount_ok (d := d + 0) e
    · cases e) ?_
  refine px_o1 (fun a h q e => by
    dsimp only at e
    split at e
    · exact wu_has_ok (d := d + 0) e
    · cases e) ?_
  exact px_o0)
set_option maxRecDepth 200000 in
theorem cr_consider_80_ok {d : Nat} : ∀ (s0 : Int32) (h : pH) (q : Int32 × pH), cr_consider_80 s0 h = some q → px_G (d + 1 + 1) (pX_RX1, prog_3_method_8_code, 2, none) 80 [none, none] [.inl s0, .inr (.inl 17)] h q := by
  intro s0 h q e
  exact px_blk_ok (d := d + 1) (M := (pX_RX1, prog_3_method_8_code, 2, none)) (C := cr_consider_orc) (code := cr_consider_code) (ld := []) (kl := []) (cr_consider_orc_ok) pX_ok_RX1 cr_consider_code_ok (px_k0) 43 80 _ _ h q e
set_option maxRecDepth 200000 in
theorem cr_consider_ok {d : Nat} {x1 : Int32} {h : pH} {q : Int32 × pH} (e : cr_consider x1 h = some q) : px_Con (d + 2) 11 [.inr (.inl 22), .inl x1] h q :=
  px_con (X := pX_RX1) (b := prog_3_method_8_code) (nL := 2) (rt := none) rfl rfl (Nat.le_of_ble_eq_true rfl) rfl (px_blk_ok (d := d + 1) (M := (pX_RX1, prog_3_method_8_code, 2, none)) (C := cr_consider_orc) (code := cr_consider_code) (ld := [80]) (kl := [(80, fun ls st h => px_if (px_fit [0, 0] ls && px_fits [1, 27] st) (cr_consider_80 (px_si st 0) h))]) (cr_consider_orc_ok) pX_ok_RX1 cr_consider_code_ok (px_k1 (px_ko (ts := [0, 0]) (ss := [1, 27]) fun ls st h q e => cr_consider_80_ok _ _ _ e) px_k0) 43 0 _ _ _ q e)
/-! WordsUnsaid$Crossing.kept(IIII)I -/
noncomputable def cr_kept_31 : Nat → Int32 → Int32 → Int32 → Int32 → Int32 → pH → pR
  | 0, _, _, _, _, _, _ => none
  | n + 1, x2, x3, x4, x5, x6, h =>
    if x4 ≤ x6 then
      some (px_max (px_c 0) x4, h)
    else
      px_bind (ru_pressure x6 (x2 - x6) (x3 + x6) h) fun z1 h2 =>
      let h3 := px_w h2 22 13 z1
      if (h3 22 13) ≤ x5 then
        cr_kept_31 n x2 x3 x4 x5 (x6 + px_c 1) h3
      else
        some (x6, h3)
noncomputable def cr_kept (x1 : Int32) (x2 : Int32) (x3 : Int32) (x4 : Int32) (h : pH) : pR :=
  px_bind (wu_at 10 x1 h) fun z1 h2 =>
  px_bind (wu_at 4 z1 h2) fun z3 h4 =>
  px_bind (cr_consider x1 h4) fun _ h6 =>
  cr_kept_31 px_F x2 x3 x4 z3 (px_c 0) h6
def cr_kept_code : pCode := [(0, .aload_n 0, 1), (1, .getfield 9, 3), (4, .getfield 144, 3), (7, .aload_n 0, 1), (8, .getfield 9, 3), (11, .getfield 122, 3), (14, .iload_n 1, 1), (15, .invokestatic 39, 3), (18, .invokestatic 39, 3), (21, .istore 5, 2), (23, .aload_n 0, 1), (24, .iload_n 1, 1), (25, .invokevirtual 147, 3), (28, .iconst 0, 1), (29, .istore 6, 2), (31, .iload 6, 2), (33, .iload 4, 2), (35, .if_icmp .ge (42), 3), (38, .aload_n 0, 1), (39, .aload_n 0, 1), (40, .getfield 19, 3), (43, .iload 6, 2), (45, .iload_n 2, 1), (46, .iload 6, 2), (48, .isub, 1), (49, .iload_n 3, 1), (50, .iload 6, 2), (52, .iadd, 1), (53, .invokevirtual 151, 3), (56, .putfield 154, 3), (59, .aload_n 0, 1), (60, .getfield 154, 3), (63, .iload 5, 2), (65, .if_icmp .le (6), 3), (68, .iload 6, 2), (70, .ireturn, 1), (71, .iinc 6 (1), 3), (74, .goto (-43), 3), (77, .iconst 0, 1), (78, .iload 4, 2), (80, .invokestatic 156, 3), (83, .ireturn, 1)]
set_option maxRecDepth 200000 in
theorem cr_kept_code_ok : px_code prog_3_method_9_code cr_kept_code = true := by decide +kernel
noncomputable def cr_kept_orc : pC := px_orc [(78, fun a h => match a with
    | [.inr (.inl 17), .inl v1, .inl v2, .inl v3] => ru_pressure v1 v2 v3 h
    | _ => none), (158, fun a h => match a with
    | [.inr (.inl v0), .inl v1] => wu_at v0 v1 h
    | _ => none), (11, fun a h => match a with
    | [.inr (.inl 22), .inl v1] => cr_consider v1 h
    | _ => none)]
theorem cr_kept_orc_ok {d : Nat} : px_Or (d + 2) (cr_kept_orc) := px_orc_ok (by
  refine px_o1 (fun a h q e => by
    dsimp only at e
    split at e
    · exact ru_pressure_ok (d := d + 0) e
    · cases e) ?_
  refine px_o1 (fun a h q e => by
    dsimp only at e
    split at e
    · exact wu_at_ok (d := d + 1) e
    · cases e) ?_
  refine px_o1 (fun a h q e => by
    dsimp only at e
    split at e
    · exact cr_consider_ok (d := d + 0) e
    · cases e) ?_
  exact px_o0)
set_option maxRecDepth 200000 in
theorem cr_kept_31_ok {d : Nat} : ∀ (n : Nat) (x2 : Int32) (x3 : Int32) (x4 : Int32) (x5 : Int32) (x6 : Int32) (h : pH) (q : Int32 × pH), cr_kept_31 n x2 x3 x4 x5 x6 h = some q → px_G (d + 2 + 1) (pX_RX1, prog_3_method_9_code, 7, (some .int)) 31 [some (.inr (.inl 22)), none, some (.inl x2), some (.inl x3), some (.inl x4), some (.inl x5), some (.inl x6)] [] h q := by
  intro n
  induction n with
  | zero =>
    intro x2 x3 x4 x5 x6 h q e
    cases e
  | succ n ih =>
    intro x2 x3 x4 x5 x6 h q e
    exact px_blk_ok (d := d + 2) (M := (pX_RX1, prog_3_method_9_code, 7, (some .int))) (C := cr_kept_orc) (code := cr_kept_code) (ld := [31]) (kl := [(31, fun ls st h => px_if (px_fit [32, 0, 1, 1, 1, 1, 1] ls && px_fits [] st) (cr_kept_31 n (px_gi ls 2) (px_gi ls 3) (px_gi ls 4) (px_gi ls 5) (px_gi ls 6) h))]) (cr_kept_orc_ok) pX_ok_RX1 cr_kept_code_ok (px_k1 (px_ko (ts := [32, 0, 1, 1, 1, 1, 1]) (ss := []) fun ls st h q e => ih _ _ _ _ _ _ _ e) px_k0) 47 31 _ _ h q e
set_option maxRecDepth 200000 in
theorem cr_kept_ok {d : Nat} {x1 : Int32} {x2 : Int32} {x3 : Int32} {x4 : Int32} {h : pH} {q : Int32 × pH} (e : cr_kept x1 x2 x3 x4 h = some q) : px_Con (d + 3) 12 [.inr (.inl 22), .inl x1, .inl x2, .inl x3, .inl x4] h q :=
  px_con (X := pX_RX1) (b := prog_3_method_9_code) (nL := 7) (rt := (some .int)) rfl rfl (Nat.le_of_ble_eq_true rfl) rfl (px_blk_ok (d := d + 2) (M := (pX_RX1, prog_3_method_9_code, 7, (some .int))) (C := cr_kept_orc) (code := cr_kept_code) (ld := [31]) (kl := [(31, fun ls st h => px_if (px_fit [32, 0, 1, 1, 1, 1, 1] ls && px_fits [] st) (cr_kept_31 px_F (px_gi ls 2) (px_gi ls 3) (px_gi ls 4) (px_gi ls 5) (px_gi ls 6) h))]) (cr_kept_orc_ok) pX_ok_RX1 cr_kept_code_ok (px_k1 (px_ko (ts := [32, 0, 1, 1, 1, 1, 1]) (ss := []) fun ls st h q e => cr_kept_31_ok _ _ _ _ _ _ _ _ e) px_k0) 47 0 _ _ _ q e)
/-! WordsUnsaid$Crossing.go()V -/
noncomputable def cr_go_163 (s0 : Int32) (h : pH) : pR :=
  let h1 := px_w h 22 12 s0
  some (0, h1)
noncomputable def cr_go_119 (r12 : Int32 → pH → pR) (x1 : Int32) (s0 : Int32) (h : pH) : pR :=
  let h1 := px_w h 22 11 s0
  r12 (x1 + px_c 1) h1
noncomputable def cr_go_66 (r12 : Int32 → pH → pR) (x1 : Int32) (x2 : Int32) (x3 : Int32) (s0 : Int32) (h : pH) : pR :=
  px_bind (cr_kept x2 x3 (h 22 10) s0 h) fun z1 h2 =>
  px_bind (wu_put 24 x1 z1 h2) fun _ h4 =>
  let h5 := px_w h4 22 10 ((h4 22 10) + z1)
  if s0 ≤ z1 then
    cr_go_119 r12 x1 (h5 22 11) h5
  else
    cr_go_119 r12 x1 x2 h5
noncomputable def cr_go_12 : Nat → Int32 → pH → pR
  | 0, _, _ => none
  | n + 1, x1, h =>
    if (h 22 5) ≤ x1 then
      if (h 22 11) = (px_c (-1)) then
        cr_go_163 (h 22 8) h
      else
        px_bind (rv_landing (h 22 7) (h 22 8) (h 22 10) h) fun z1 h2 =>
        cr_go_163 z1 h2
    else
      px_bind (wu_at 23 x1 h) fun z3 h4 =>
      px_bind (wu_at 8 z3 h4) fun z5 h6 =>
      if (h6 22 11) = (px_c (-1)) then
        cr_go_66 (cr_go_12 n) x1 z3 z5 (px_min z5 ((h6 22 9) - (h6 22 10))) h6
      else
        cr_go_66 (cr_go_12 n) x1 z3 z5 (px_c 0) h6
noncomputable def cr_go (h : pH) : pR :=
  let h1 := px_w h 22 10 (px_c 0)
  let h2 := px_w h1 22 11 (px_c (-1))
  cr_go_12 px_F (px_c 0) h2
def cr_go_code : pCode := [(0, .aload_n 0, 1), (1, .iconst 0, 1), (2, .putfield 86, 3), (5, .aload_n 0, 1), (6, .iconst (-1), 1), (7, .putfield 89, 3), (10, .iconst 0, 1), (11, .istore_n 1, 1), (12, .iload_n 1, 1), (13, .aload_n 0, 1), (14, .getfield 73, 3), (17, .if_icmp .ge (111), 3), (20, .aload_n 0, 1), (21, .getfield 23, 3), (24, .iload_n 1, 1), (25, .invokestatic 39, 3), (28, .istore_n 2, 1), (29, .aload_n 0, 1), (30, .getfield 9, 3), (33, .getfield 79, 3), (36, .iload_n 2, 1), (37, .invokestatic 39, 3), (40, .istore_n 3, 1), (41, .aload_n 0, 1), (42, .getfield 89, 3), (45, .iconst (-1), 1), (46, .if_icmp .ne (19), 3), (49, .iload_n 3, 1), (50, .aload_n 0, 1), (51, .getfield 70, 3), (54, .aload_n 0, 1), (55, .getfield 86, 3), (58, .isub, 1), (59, .invokestatic 92, 3), (62, .goto (4), 3), (65, .iconst 0, 1), (66, .istore 4, 2), (68, .aload_n 0, 1), (69, .iload_n 2, 1), (70, .iload_n 3, 1), (71, .aload_n 0, 1), (72, .getfield 86, 3), (75, .iload 4, 2), (77, .invokevirtual 97, 3), (80, .istore 5, 2), (82, .aload_n 0, 1), (83, .getfield 27, 3), (86, .iload_n 1, 1), (87, .iload 5, 2), (89, .invokestatic 82, 3), (92, .aload_n 0, 1), (93, .dup, 1), (94, .getfield 86, 3), (97, .iload 5, 2), (99, .iadd, 1), (100, .putfield 86, 3), (103, .aload_n 0, 1), (104, .iload 5, 2), (106, .iload 4, 2), (108, .if_icmp .ge (7), 3), (111, .iload_n 2, 1), (112, .goto (7), 3), (115, .aload_n 0, 1), (116, .getfield 89, 3), (119, .putfield 89, 3), (122, .iinc 1 (1), 3), (125, .goto (-113), 3), (128, .aload_n 0, 1), (129, .aload_n 0, 1), (130, .getfield 89, 3), (133, .iconst (-1), 1), (134, .if_icmp .ne (10), 3), (137, .aload_n 0, 1), (138, .getfield 61, 3), (141, .goto (22), 3), (144, .aload_n 0, 1), (145, .getfield 15, 3), (148, .aload_n 0, 1), (149, .getfield 58, 3), (152, .aload_n 0, 1), (153, .getfield 61, 3), (156, .aload_n 0, 1), (157, .getfield 86, 3), (160, .invokevirtual 101, 3), (163, .putfield 105, 3), (166, .return_, 1)]
set_option maxRecDepth 200000 in
theorem cr_go_code_ok : px_code prog_3_method_6_code cr_go_code = true := by decide +kernel
noncomputable def cr_go_orc : pC := px_orc [(12, fun a h => match a with
    | [.inr (.inl 22), .inl v1, .inl v2, .inl v3, .inl v4] => cr_kept v1 v2 v3 v4 h
    | _ => none), (159, fun a h => match a with
    | [.inr (.inl v0), .inl v1, .inl v2] => wu_put v0 v1 v2 h
    | _ => none), (65, fun a h => match a with
    | [.inr (.inl 14), .inl v1, .inl v2, .inl v3] => rv_landing v1 v2 v3 h
    | _ => none), (158, fun a h => match a with
    | [.inr (.inl v0), .inl v1] => wu_at v0 v1 h
    | _ => none)]
theorem cr_go_orc_ok {d : Nat} : px_Or (d + 3) (cr_go_orc) := px_orc_ok (by
  refine px_o1 (fun a h q e => by
    dsimp only at e
    split at e
    · exact cr_kept_ok (d := d + 0) e
    · cases e) ?_
  refine px_o1 (fun a h q e => by
    dsimp only at e
    split at e
    · exact wu_put_ok (d := d + 2) e
    · cases e) ?_
  refine px_o1 (fun a h q e => by
    dsimp only at e
    split at e
    · exact rv_landing_ok (d := d + 0) e
    · cases e) ?_
  refine px_o1 (fun a h q e => by
    dsimp only at e
    split at e
    · exact wu_at_ok (d := d + 2) e
    · cases e) ?_
  exact px_o0)
set_option maxRecDepth 200000 in
theorem cr_go_163_ok {d : Nat} : ∀ (s0 : Int32) (h : pH) (q : Int32 × pH), cr_go_163 s0 h = some q → px_G (d + 3 + 1) (pX_RX1, prog_3_method_6_code, 6, none) 163 [none, none, none, none, none, none] [.inl s0, .inr (.inl 22)] h q := by
  intro s0 h q e
  exact px_blk_ok (d := d + 3) (M := (pX_RX1, prog_3_method_6_code, 6, none)) (C := cr_go_orc) (code := cr_go_code) (ld := []) (kl := []) (cr_go_orc_ok) pX_ok_RX1 cr_go_code_ok (px_k0) 91 163 _ _ h q e
set_option maxRecDepth 200000 in
theorem cr_go_119_ok {d : Nat} {r12 : Int32 → pH → pR} (hr12 : ∀ (x1 : Int32) (h : pH) (q : Int32 × pH), r12 x1 h = some q → px_G (d + 3 + 1) (pX_RX1, prog_3_method_6_code, 6, none) 12 [some (.inr (.inl 22)), some (.inl x1), none, none, none, none] [] h q) : ∀ (x1 : Int32) (s0 : Int32) (h : pH) (q : Int32 × pH), cr_go_119 r12 x1 s0 h = some q → px_G (d + 3 + 1) (pX_RX1, prog_3_method_6_code, 6, none) 119 [some (.inr (.inl 22)), some (.inl x1), none, none, none, none] [.inl s0, .inr (.inl 22)] h q := by
  intro x1 s0 h q e
  exact px_blk_ok (d := d + 3) (M := (pX_RX1, prog_3_method_6_code, 6, none)) (C := cr_go_orc) (code := cr_go_code) (ld := [12]) (kl := [(12, fun ls st h => px_if (px_fit [32, 1, 0, 0, 0, 0] ls && px_fits [] st) (r12 (px_gi ls 1) h))]) (cr_go_orc_ok) pX_ok_RX1 cr_go_code_ok (px_k1 (px_ko (ts := [32, 1, 0, 0, 0, 0]) (ss := []) fun ls st h q e => hr12 _ _ _ e) px_k0) 91 119 _ _ h q e
set_option maxRecDepth 200000 in
theorem cr_go_66_ok {d : Nat} {r12 : Int32 → pH → pR} (hr12 : ∀ (x1 : Int32) (h : pH) (q : Int32 × pH), r12 x1 h = some q → px_G (d + 3 + 1) (pX_RX1, prog_3_method_6_code, 6, none) 12 [some (.inr (.inl 22)), some (.inl x1), none, none, none, none] [] h q) : ∀ (x1 : Int32) (x2 : Int32) (x3 : Int32) (s0 : Int32) (h : pH) (q : Int32 × pH), cr_go_66 r12 x1 x2 x3 s0 h = some q → px_G (d + 3 + 1) (pX_RX1, prog_3_method_6_code, 6, none) 66 [some (.inr (.inl 22)), some (.inl x1), some (.inl x2), some (.inl x3), none, none] [.inl s0] h q := by
  intro x1 x2 x3 s0 h q e
  exact px_blk_ok (d := d + 3) (M := (pX_RX1, prog_3_method_6_code, 6, none)) (C := cr_go_orc) (code := cr_go_code) (ld := [119]) (kl := [(119, fun ls st h => px_if (px_fit [32, 1, 0, 0, 0, 0] ls && px_fits [1, 32] st) (cr_go_119 r12 (px_gi ls 1) (px_si st 0) h))]) (cr_go_orc_ok) pX_ok_RX1 cr_go_code_ok (px_k1 (px_ko (ts := [32, 1, 0, 0, 0, 0]) (ss := [1, 32]) fun ls st h q e => cr_go_119_ok hr12 _ _ _ _ e) px_k0) 91 66 _ _ h q e
set_option maxRecDepth 200000 in
theorem cr_go_12_ok {d : Nat} : ∀ (n : Nat) (x1 : Int32) (h : pH) (q : Int32 × pH), cr_go_12 n x1 h = some q → px_G (d + 3 + 1) (pX_RX1, prog_3_method_6_code, 6, none) 12 [some (.inr (.inl 22)), some (.inl x1), none, none, none, none] [] h q := by
  intro n
  induction n with
  | zero =>
    intro x1 h q e
    cases e
  | succ n ih =>
    intro x1 h q e
    exact px_blk_ok (d := d + 3) (M := (pX_RX1, prog_3_method_6_code, 6, none)) (C := cr_go_orc) (code := cr_go_code) (ld := [66, 163]) (kl := [(66, fun ls st h => px_if (px_fit [32, 1, 1, 1, 0, 0] ls && px_fits [1] st) (cr_go_66 (cr_go_12 n) (px_gi ls 1) (px_gi ls 2) (px_gi ls 3) (px_si st 0) h)), (163, fun ls st h => px_if (px_fit [0, 0, 0, 0, 0, 0] ls && px_fits [1, 32] st) (cr_go_163 (px_si st 0) h))]) (cr_go_orc_ok) pX_ok_RX1 cr_go_code_ok (px_k1 (px_ko (ts := [32, 1, 1, 1, 0, 0]) (ss := [1]) fun ls st h q e => cr_go_66_ok ih _ _ _ _ _ _ e) (px_k1 (px_ko (ts := [0, 0, 0, 0, 0, 0]) (ss := [1, 32]) fun ls st h q e => cr_go_163_ok _ _ _ e) px_k0)) 91 12 _ _ h q e
set_option maxRecDepth 200000 in
theorem cr_go_ok {d : Nat} {h : pH} {q : Int32 × pH} (e : cr_go h = some q) : px_Con (d + 4) 9 [.inr (.inl 22)] h q :=
  px_con (X := pX_RX1) (b := prog_3_method_6_code) (nL := 6) (rt := none) rfl rfl (Nat.le_of_ble_eq_true rfl) rfl (px_blk_ok (d := d + 3) (M := (pX_RX1, prog_3_method_6_code, 6, none)) (C := cr_go_orc) (code := cr_go_code) (ld := [12]) (kl := [(12, fun ls st h => px_if (px_fit [32, 1, 0, 0, 0, 0] ls && px_fits [] st) (cr_go_12 px_F (px_gi ls 1) h))]) (cr_go_orc_ok) pX_ok_RX1 cr_go_code_ok (px_k1 (px_ko (ts := [32, 1, 0, 0, 0, 0]) (ss := []) fun ls st h q e => cr_go_12_ok _ _ _ _ e) px_k0) 91 0 _ _ _ q e)
/-! WordsUnsaid$Crossing.settle()V -/
noncomputable def cr_settle_79 (h : pH) : pR :=
  px_bind (hs_move (h 22 6) (h 22 12) h) fun _ h2 =>
  some (0, h2)
noncomputable def cr_settle_2 : Nat → Int32 → pH → pR
  | 0, _, _ => none
  | n + 1, x1, h =>
    if (h 22 5) ≤ x1 then
      if (h 22 11) = (px_c (-1)) then
        cr_settle_79 h
      else
        px_bind (hs_tellTo (h 22 11) (h 22 6) h) fun _ h2 =>
        cr_settle_79 h2
    else
      px_bind (wu_at 23 x1 h) fun z3 h4 =>
      px_bind (wu_at 8 z3 h4) fun z5 h6 =>
      px_bind (wu_at 24 x1 h6) fun z7 h8 =>
      px_bind (wu_put 8 z3 (z5 - z7) h8) fun _ h10 =>
      cr_settle_2 n (x1 + px_c 1) h10
noncomputable def cr_settle (h : pH) : pR :=
  cr_settle_2 px_F (px_c 0) h
def cr_settle_code : pCode := [(0, .iconst 0, 1), (1, .istore_n 1, 1), (2, .iload_n 1, 1), (3, .aload_n 0, 1), (4, .getfield 73, 3), (7, .if_icmp .ge (49), 3), (10, .aload_n 0, 1), (11, .getfield 23, 3), (14, .iload_n 1, 1), (15, .invokestatic 39, 3), (18, .istore_n 2, 1), (19, .aload_n 0, 1), (20, .getfield 9, 3), (23, .getfield 79, 3), (26, .iload_n 2, 1), (27, .aload_n 0, 1), (28, .getfield 9, 3), (31, .getfield 79, 3), (34, .iload_n 2, 1), (35, .invokestatic 39, 3), (38, .aload_n 0, 1), (39, .getfield 27, 3), (42, .iload_n 1, 1), (43, .invokestatic 39, 3), (46, .isub, 1), (47, .invokestatic 82, 3), (50, .iinc 1 (1), 3), (53, .goto (-51), 3), (56, .aload_n 0, 1), (57, .getfield 89, 3), (60, .iconst (-1), 1), (61, .if_icmp .eq (18), 3), (64, .aload_n 0, 1), (65, .getfield 9, 3), (68, .aload_n 0, 1), (69, .getfield 89, 3), (72, .aload_n 0, 1), (73, .getfield 54, 3), (76, .invokevirtual 107, 3), (79, .aload_n 0, 1), (80, .getfield 9, 3), (83, .aload_n 0, 1), (84, .getfield 54, 3), (87, .aload_n 0, 1), (88, .getfield 105, 3), (91, .invokevirtual 111, 3), (94, .return_, 1)]
set_option maxRecDepth 200000 in
theorem cr_settle_code_ok : px_code prog_3_method_7_code cr_settle_code = true := by decide +kernel
noncomputable def cr_settle_orc : pC := px_orc [(47, fun a h => match a with
    | [.inr (.inl 3), .inl v1, .inl v2] => hs_move v1 v2 h
    | _ => none), (46, fun a h => match a with
    | [.inr (.inl 3), .inl v1, .inl v2] => hs_tellTo v1 v2 h
    | _ => none), (158, fun a h => match a with
    | [.inr (.inl v0), .inl v1] => wu_at v0 v1 h
    | _ => none), (159, fun a h => match a with
    | [.inr (.inl v0), .inl v1, .inl v2] => wu_put v0 v1 v2 h
    | _ => none)]
theorem cr_settle_orc_ok {d : Nat} : px_Or (d + 2) (cr_settle_orc) := px_orc_ok (by
  refine px_o1 (fun a h q e => by
    dsimp only at e
    split at e
    · exact hs_move_ok (d := d + 0) e
    · cases e) ?_
  refine px_o1 (fun a h q e => by
    dsimp only at e
    split at e
    · exact hs_tellTo_ok (d := d + 0) e
    · cases e) ?_
  refine px_o1 (fun a h q e => by
    dsimp only at e
    split at e
    · exact wu_at_ok (d := d + 1) e
    · cases e) ?_
  refine px_o1 (fun a h q e => by
    dsimp only at e
    split at e
    · exact wu_put_ok (d := d + 1) e
    · cases e) ?_
  exact px_o0)
set_option maxRecDepth 200000 in
theorem cr_settle_79_ok {d : Nat} : ∀ (h : pH) (q : Int32 × pH), cr_settle_79 h = some q → px_G (d + 2 + 1) (pX_RX1, prog_3_method_7_code, 3, none) 79 [some (.inr (.inl 22)), none, none] [] h q := by
  intro h q e
  exact px_blk_ok (d := d + 2) (M := (pX_RX1, prog_3_method_7_code, 3, none)) (C := cr_settle_orc) (code := cr_settle_code) (ld := []) (kl := []) (cr_settle_orc_ok) pX_ok_RX1 cr_settle_code_ok (px_k0) 52 79 _ _ h q e
set_option maxRecDepth 200000 in
theorem cr_settle_2_ok {d : Nat} : ∀ (n : Nat) (x1 : Int32) (h : pH) (q : Int32 × pH), cr_settle_2 n x1 h = some q → px_G (d + 2 + 1) (pX_RX1, prog_3_method_7_code, 3, none) 2 [some (.inr (.inl 22)), some (.inl x1), none] [] h q := by
  intro n
  induction n with
  | zero =>
    intro x1 h q e
    cases e
  | succ n ih =>
    intro x1 h q e
    exact px_blk_ok (d := d + 2) (M := (pX_RX1, prog_3_method_7_code, 3, none)) (C := cr_settle_orc) (code := cr_settle_code) (ld := [2, 79]) (kl := [(2, fun ls st h => px_if (px_fit [32, 1, 0] ls && px_fits [] st) (cr_settle_2 n (px_gi ls 1) h)), (79, fun ls st h => px_if (px_fit [32, 0, 0] ls && px_fits [] st) (cr_settle_79 h))]) (cr_settle_orc_ok) pX_ok_RX1 cr_settle_code_ok (px_k1 (px_ko (ts := [32, 1, 0]) (ss := []) fun ls st h q e => ih _ _ _ e) (px_k1 (px_ko (ts := [32, 0, 0]) (ss := []) fun ls st h q e => cr_settle_79_ok _ _ e) px_k0)) 52 2 _ _ h q e
set_option maxRecDepth 200000 in
theorem cr_settle_ok {d : Nat} {h : pH} {q : Int32 × pH} (e : cr_settle h = some q) : px_Con (d + 3) 10 [.inr (.inl 22)] h q :=
  px_con (X := pX_RX1) (b := prog_3_method_7_code) (nL := 3) (rt := none) rfl rfl (Nat.le_of_ble_eq_true rfl) rfl (px_blk_ok (d := d + 2) (M := (pX_RX1, prog_3_method_7_code, 3, none)) (C := cr_settle_orc) (code := cr_settle_code) (ld := [2]) (kl := [(2, fun ls st h => px_if (px_fit [32, 1, 0] ls && px_fits [] st) (cr_settle_2 px_F (px_gi ls 1) h))]) (cr_settle_orc_ok) pX_ok_RX1 cr_settle_code_ok (px_k1 (px_ko (ts := [32, 1, 0]) (ss := []) fun ls st h q e => cr_settle_2_ok _ _ _ _ e) px_k0) 52 0 _ _ _ q e)
/-! WordsUnsaid$Crossing.oddsOfTen(III)I -/
noncomputable def cr_oddsOfTen_87 (s0 : Int32) (h : pH) : pR :=
  some (s0, h)
noncomputable def cr_oddsOfTen (x1 : Int32) (x2 : Int32) (x3 : Int32) (h : pH) : pR :=
  px_bind (cr_consider x1 h) fun _ h2 =>
  px_bind (wu_at 10 x1 h2) fun z3 h4 =>
  px_bind (wu_at 4 z3 h4) fun z5 h6 =>
  let y4_7 := z5.toInt64
  px_bind (wu_at 8 x1 h6) fun z8 h9 =>
  px_bind (ru_pressure x2 (z8 - x2) x3 h9) fun z10 h11 =>
  let y6_12 := (y4_7 - z10.toInt64) + (Int64.ofNat 1)
  if 0 ≤ (lg_cmp y6_12 (Int64.ofNat 0)) then
    if (lg_cmp y6_12 10) ≤ 0 then
      cr_oddsOfTen_87 y6_12.toInt32 h11
    else
      cr_oddsOfTen_87 (px_c 10) h11
  else
    cr_oddsOfTen_87 (px_c 0) h11
def cr_oddsOfTen_code : pCode := [(0, .aload_n 0, 1), (1, .iload_n 1, 1), (2, .invokevirtual 147, 3), (5, .aload_n 0, 1), (6, .getfield 9, 3), (9, .getfield 144, 3), (12, .aload_n 0, 1), (13, .getfield 9, 3), (16, .getfield 122, 3), (19, .iload_n 1, 1), (20, .invokestatic 39, 3), (23, .invokestatic 39, 3), (26, .i2l, 1), (27, .lstore 4, 2), (29, .lload 4, 2), (31, .aload_n 0, 1), (32, .getfield 19, 3), (35, .iload_n 2, 1), (36, .aload_n 0, 1), (37, .getfield 9, 3), (40, .getfield 79, 3), (43, .iload_n 1, 1), (44, .invokestatic 39, 3), (47, .iload_n 2, 1), (48, .isub, 1), (49, .iload_n 3, 1), (50, .invokevirtual 151, 3), (53, .i2l, 1), (54, .lsub, 1), (55, .lconst 1, 1), (56, .ladd, 1), (57, .lstore 6, 2), (59, .lload 6, 2), (61, .lconst 0, 1), (62, .lcmp, 1), (63, .ifCond .ge (7), 3), (66, .iconst 0, 1), (67, .goto (20), 3), (70, .lload 6, 2), (72, .ldc2_w 159, 3), (75, .lcmp, 1), (76, .ifCond .le (8), 3), (79, .bipush (10), 2), (81, .goto (6), 3), (84, .lload 6, 2), (86, .l2i, 1), (87, .ireturn, 1)]
set_option maxRecDepth 200000 in
theorem cr_oddsOfTen_code_ok : px_code prog_3_method_10_code cr_oddsOfTen_code = true := by decide +kernel
noncomputable def cr_oddsOfTen_orc : pC := px_orc [(11, fun a h => match a with
    | [.inr (.inl 22), .inl v1] => cr_consider v1 h
    | _ => none), (158, fun a h => match a with
    | [.inr (.inl v0), .inl v1] => wu_at v0 v1 h
    | _ => none), (78, fun a h => match a with
    | [.inr (.inl 17), .inl v1, .inl v2, .inl v3] => ru_pressure v1 v2 v3 h
    | _ => none)]
theorem cr_oddsOfTen_orc_ok {d : Nat} : px_Or (d + 2) (cr_oddsOfTen_orc) := px_orc_ok (by
  refine px_o1 (fun a h q e => by
    dsimp only at e
    split at e
    · exact cr_consider_ok (d := d + 0) e
    · cases e) ?_
  refine px_o1 (fun a h q e => by
    dsimp only at e
    split at e
    · exact wu_at_ok (d := d + 1) e
    · cases e) ?_
  refine px_o1 (fun a h q e => by
    dsimp only at e
    split at e
    · exact ru_pressure_ok (d := d + 0) e
    · cases e) ?_
  exact px_o0)
set_option maxRecDepth 200000 in
theorem cr_oddsOfTen_87_ok {d : Nat} : ∀ (s0 : Int32) (h : pH) (q : Int32 × pH), cr_oddsOfTen_87 s0 h = some q → px_G (d + 2 + 1) (pX_RX1, prog_3_method_10_code, 8, (some .int)) 87 [none, none, none, none, none, none, none, none] [.inl s0] h q := by
  intro s0 h q e
  exact px_blk_ok (d := d + 2) (M := (pX_RX1, prog_3_method_10_code, 8, (some .int))) (C := cr_oddsOfTen_orc) (code := cr_oddsOfTen_code) (ld := []) (kl := []) (cr_oddsOfTen_orc_ok) pX_ok_RX1 cr_oddsOfTen_code_ok (px_k0) 52 87 _ _ h q e
set_option maxRecDepth 200000 in
theorem cr_oddsOfTen_ok {d : Nat} {x1 : Int32} {x2 : Int32} {x3 : Int32} {h : pH} {q : Int32 × pH} (e : cr_oddsOfTen x1 x2 x3 h = some q) : px_Con (d + 3) 13 [.inr (.inl 22), .inl x1, .inl x2, .inl x3] h q :=
  px_con (X := pX_RX1) (b := prog_3_method_10_code) (nL := 8) (rt := (some .int)) rfl rfl (Nat.le_of_ble_eq_true rfl) rfl (px_blk_ok (d := d + 2) (M := (pX_RX1, prog_3_method_10_code, 8, (some .int))) (C := cr_oddsOfTen_orc) (code := cr_oddsOfTen_code) (ld := [87]) (kl := [(87, fun ls st h => px_if (px_fit [0, 0, 0, 0, 0, 0, 0, 0] ls && px_fits [1] st) (cr_oddsOfTen_87 (px_si st 0) h))]) (cr_oddsOfTen_orc_ok) pX_ok_RX1 cr_oddsOfTen_code_ok (px_k1 (px_ko (ts := [0, 0, 0, 0, 0, 0, 0, 0]) (ss := [1]) fun ls st h q e => cr_oddsOfTen_87_ok _ _ _ e) px_k0) 52 0 _ _ _ q e)
/-! WordsUnsaid$Walk.startOnLeft(I)V -/
noncomputable def wk_startOnLeft_114 (r26 : Int32 → pH → pR) (x2 : Int32) (s0 : Int32) (h : pH) : pR :=
  let h1 := px_w h 25 12 s0
  r26 (x2 + px_c 1) h1
noncomputable def wk_startOnLeft_83 (r26 : Int32 → pH → pR) (x2 : Int32) (x3 : Int32) (s0 : Int32) (s1 : Int32) (h : pH) : pR :=
  let h1 := px_w h 25 11 (s1 ||| s0)
  if x3 = 0 then
    wk_startOnLeft_114 r26 x2 (h1 25 12) h1
  else
    px_bind (wu_at 26 x2 h1) fun z2 h3 =>
    wk_startOnLeft_114 r26 x2 (px_max (h1 25 12) z2) h3
noncomputable def wk_startOnLeft_66 (r26 : Int32 → pH → pR) (x2 : Int32) (s0 : Int32) (h : pH) : pR :=
  if s0 = 0 then
    wk_startOnLeft_83 r26 x2 s0 (px_c 0) (h 25 11) h
  else
    wk_startOnLeft_83 r26 x2 s0 ((px_c 1) <<< (x2 &&& 31)) (h 25 11) h
noncomputable def wk_startOnLeft_65 (r26 : Int32 → pH → pR) (x2 : Int32) (h : pH) : pR :=
  wk_startOnLeft_66 r26 x2 (px_c 0) h
noncomputable def wk_startOnLeft_26 : Nat → Int32 → pH → pR
  | 0, _, _ => none
  | n + 1, x2, h =>
    if (px_c 10) ≤ x2 then
      some (0, h)
    else
      px_bind (hs_isUnsaidOf (h 22 6) x2 h) fun z1 h2 =>
      if z1 = 0 then
        wk_startOnLeft_65 (wk_startOnLeft_26 n) x2 h2
      else
        px_bind (wu_at 26 x2 h2) fun z3 h4 =>
        if z3 ≤ 0 then
          wk_startOnLeft_65 (wk_startOnLeft_26 n) x2 h4
        else
          wk_startOnLeft_66 (wk_startOnLeft_26 n) x2 (px_c 1) h4
noncomputable def wk_startOnLeft (x1 : Int32) (h : pH) : pR :=
  let h1 := px_w h 25 10 (px_min x1 (px_c 4))
  let h2 := px_w h1 25 9 (px_c 0)
  let h3 := px_w h2 25 11 (px_c 0)
  let h4 := px_w h3 25 12 (px_c 0)
  wk_startOnLeft_26 px_F (px_c 0) h4
def wk_startOnLeft_code : pCode := [(0, .aload_n 0, 1), (1, .iload_n 1, 1), (2, .iconst 4, 1), (3, .invokestatic 56, 3), (6, .putfield 62, 3), (9, .aload_n 0, 1), (10, .iconst 0, 1), (11, .putfield 66, 3), (14, .aload_n 0, 1), (15, .iconst 0, 1), (16, .putfield 69, 3), (19, .aload_n 0, 1), (20, .iconst 0, 1), (21, .putfield 72, 3), (24, .iconst 0, 1), (25, .istore_n 2, 1), (26, .iload_n 2, 1), (27, .bipush (10), 2), (29, .if_icmp .ge (94), 3), (32, .aload_n 0, 1), (33, .getfield 9, 3), (36, .aload_n 0, 1), (37, .getfield 15, 3), (40, .getfield 75, 3), (43, .iload_n 2, 1), (44, .invokevirtual 80, 3), (47, .ifCond .eq (18), 3), (50, .aload_n 0, 1), (51, .getfield 19, 3), (54, .iload_n 2, 1), (55, .invokestatic 44, 3), (58, .ifCond .le (7), 3), (61, .iconst 1, 1), (62, .goto (4), 3), (65, .iconst 0, 1), (66, .istore_n 3, 1), (67, .aload_n 0, 1), (68, .dup, 1), (69, .getfield 69, 3), (72, .iload_n 3, 1), (73, .ifCond .eq (9), 3), (76, .iconst 1, 1), (77, .iload_n 2, 1), (78, .ishl, 1), (79, .goto (4), 3), (82, .iconst 0, 1), (83, .ior, 1), (84, .putfield 69, 3), (87, .aload_n 0, 1), (88, .iload_n 3, 1), (89, .ifCond .eq (21), 3), (92, .aload_n 0, 1), (93, .getfield 72, 3), (96, .aload_n 0, 1), (97, .getfield 19, 3), (100, .iload_n 2, 1), (101, .invokestatic 44, 3), (104, .invokestatic 84, 3), (107, .goto (7), 3), (110, .aload_n 0, 1), (111, .getfield 72, 3), (114, .putfield 72, 3), (117, .iinc 2 (1), 3), (120, .goto (-94), 3), (123, .return_, 1)]
set_option maxRecDepth 200000 in
theorem wk_startOnLeft_code_ok : px_code prog_11_method_3_code wk_startOnLeft_code = true := by decide +kernel
noncomputable def wk_startOnLeft_orc : pC := px_orc [(158, fun a h => match a with
    | [.inr (.inl v0), .inl v1] => wu_at v0 v1 h
    | _ => none), (31, fun a h => match a with
    | [.inr (.inl 3), .inl v1, .inl v2] => hs_isUnsaidOf v1 v2 h
    | _ => none)]
theorem wk_startOnLeft_orc_ok {d : Nat} : px_Or (d + 2) (wk_startOnLeft_orc) := px_orc_ok (by
  refine px_o1 (fun a h q e => by
    dsimp only at e
    split at e
    · exact wu_at_ok (d := d + 1) e
    · cases e) ?_
  refine px_o1 (fun a h q e => by
    dsimp only at e
    split at e
    · exact hs_isUnsaidOf_ok (d := d + 0) e
    · cases e) ?_
  exact px_o0)
set_option maxRecDepth 200000 in
theorem wk_startOnLeft_114_ok {d : Nat} {r26 : Int32 → pH → pR} (hr26 : ∀ (x2 : Int32) (h : pH) (q : Int32 × pH), r26 x2 h = some q → px_G (d + 2 + 1) (pX_RX9, prog_11_method_3_code, 4, none) 26 [some (.inr (.inl 25)), none, some (.inl x2), none] [] h q) : ∀ (x2 : Int32) (s0 : Int32) (h : pH) (q : Int32 × pH), wk_startOnLeft_114 r26 x2 s0 h = some q → px_G (d + 2 + 1) (pX_RX9, prog_11_method_3_code, 4, none) 114 [some (.inr (.inl 25)), none, some (.inl x2), none] [.inl s0, .inr (.inl 25)] h q := by
  intro x2 s0 h q e
  exact px_blk_ok (d := d + 2) (M := (pX_RX9, prog_11_method_3_code, 4, none)) (C := wk_startOnLeft_orc) (code := wk_startOnLeft_code) (ld := [26]) (kl := [(26, fun ls st h => px_if (px_fit [35, 0, 1, 0] ls && px_fits [] st) (r26 (px_gi ls 2) h))]) (wk_startOnLeft_orc_ok) pX_ok_RX9 wk_startOnLeft_code_ok (px_k1 (px_ko (ts := [35, 0, 1, 0]) (ss := []) fun ls st h q e => hr26 _ _ _ e) px_k0) 70 114 _ _ h q e
set_option maxRecDepth 200000 in
theorem wk_startOnLeft_83_ok {d : Nat} {r26 : Int32 → pH → pR} (hr26 : ∀ (x2 : Int32) (h : pH) (q : Int32 × pH), r26 x2 h = some q → px_G (d + 2 + 1) (pX_RX9, prog_11_method_3_code, 4, none) 26 [some (.inr (.inl 25)), none, some (.inl x2), none] [] h q) : ∀ (x2 : Int32) (x3 : Int32) (s0 : Int32) (s1 : Int32) (h : pH) (q : Int32 × pH), wk_startOnLeft_83 r26 x2 x3 s0 s1 h = some q → px_G (d + 2 + 1) (pX_RX9, prog_11_method_3_code, 4, none) 83 [some (.inr (.inl 25)), none, some (.inl x2), some (.inl x3)] [.inl s0, .inl s1, .inr (.inl 25)] h q := by
  intro x2 x3 s0 s1 h q e
  exact px_blk_ok (d := d + 2) (M := (pX_RX9, prog_11_method_3_code, 4, none)) (C := wk_startOnLeft_orc) (code := wk_startOnLeft_code) (ld := [114]) (kl := [(114, fun ls st h => px_if (px_fit [35, 0, 1, 0] ls && px_fits [1, 35] st) (wk_startOnLeft_114 r26 (px_gi ls 2) (px_si st 0) h))]) (wk_startOnLeft_orc_ok) pX_ok_RX9 wk_startOnLeft_code_ok (px_k1 (px_ko (ts := [35, 0, 1, 0]) (ss := [1, 35]) fun ls st h q e => wk_startOnLeft_114_ok hr26 _ _ _ _ e) px_k0) 70 83 _ _ h q e
set_option maxRecDepth 200000 in
theorem wk_startOnLeft_66_ok {d : Nat} {r26 : Int32 → pH → pR} (hr26 : ∀ (x2 : Int32) (h : pH) (q : Int32 × pH), r26 x2 h = some q → px_G (d + 2 + 1) (pX_RX9, prog_11_method_3_code, 4, none) 26 [some (.inr (.inl 25)), none, some (.inl x2), none] [] h q) : ∀ (x2 : Int32) (s0 : Int32) (h : pH) (q : Int32 × pH), wk_startOnLeft_66 r26 x2 s0 h = some q → px_G (d + 2 + 1) (pX_RX9, prog_11_method_3_code, 4, none) 66 [some (.inr (.inl 25)), none, some (.inl x2), none] [.inl s0] h q := by
  intro x2 s0 h q e
  exact px_blk_ok (d := d + 2) (M := (pX_RX9, prog_11_method_3_code, 4, none)) (C := wk_startOnLeft_orc) (code := wk_startOnLeft_code) (ld := [83]) (kl := [(83, fun ls st h => px_if (px_fit [35, 0, 1, 1] ls && px_fits [1, 1, 35] st) (wk_startOnLeft_83 r26 (px_gi ls 2) (px_gi ls 3) (px_si st 0) (px_si st 1) h))]) (wk_startOnLeft_orc_ok) pX_ok_RX9 wk_startOnLeft_code_ok (px_k1 (px_ko (ts := [35, 0, 1, 1]) (ss := [1, 1, 35]) fun ls st h q e => wk_startOnLeft_83_ok hr26 _ _ _ _ _ _ e) px_k0) 70 66 _ _ h q e
set_option maxRecDepth 200000 in
theorem wk_startOnLeft_65_ok {d : Nat} {r26 : Int32 → pH → pR} (hr26 : ∀ (x2 : Int32) (h : pH) (q : Int32 × pH), r26 x2 h = some q → px_G (d + 2 + 1) (pX_RX9, prog_11_method_3_code, 4, none) 26 [some (.inr (.inl 25)), none, some (.inl x2), none] [] h q) : ∀ (x2 : Int32) (h : pH) (q : Int32 × pH), wk_startOnLeft_65 r26 x2 h = some q → px_G (d + 2 + 1) (pX_RX9, prog_11_method_3_code, 4, none) 65 [some (.inr (.inl 25)), none, some (.inl x2), none] [] h q := by
  intro x2 h q e
  exact px_blk_ok (d := d + 2) (M := (pX_RX9, prog_11_method_3_code, 4, none)) (C := wk_startOnLeft_orc) (code := wk_startOnLeft_code) (ld := [66]) (kl := [(66, fun ls st h => px_if (px_fit [35, 0, 1, 0] ls && px_fits [1] st) (wk_startOnLeft_66 r26 (px_gi ls 2) (px_si st 0) h))]) (wk_startOnLeft_orc_ok) pX_ok_RX9 wk_startOnLeft_code_ok (px_k1 (px_ko (ts := [35, 0, 1, 0]) (ss := [1]) fun ls st h q e => wk_startOnLeft_66_ok hr26 _ _ _ _ e) px_k0) 70 65 _ _ h q e
set_option maxRecDepth 200000 in
theorem wk_startOnLeft_26_ok {d : Nat} : ∀ (n : Nat) (x2 : Int32) (h : pH) (q : Int32 × pH), wk_startOnLeft_26 n x2 h = some q → px_G (d + 2 + 1) (pX_RX9, prog_11_method_3_code, 4, none) 26 [some (.inr (.inl 25)), none, some (.inl x2), none] [] h q := by
  intro n
  induction n with
  | zero =>
    intro x2 h q e
    cases e
  | succ n ih =>
    intro x2 h q e
    exact px_blk_ok (d := d + 2) (M := (pX_RX9, prog_11_method_3_code, 4, none)) (C := wk_startOnLeft_orc) (code := wk_startOnLeft_code) (ld := [65, 66]) (kl := [(65, fun ls st h => px_if (px_fit [35, 0, 1, 0] ls && px_fits [] st) (wk_startOnLeft_65 (wk_startOnLeft_26 n) (px_gi ls 2) h)), (66, fun ls st h => px_if (px_fit [35, 0, 1, 0] ls && px_fits [1] st) (wk_startOnLeft_66 (wk_startOnLeft_26 n) (px_gi ls 2) (px_si st 0) h))]) (wk_startOnLeft_orc_ok) pX_ok_RX9 wk_startOnLeft_code_ok (px_k1 (px_ko (ts := [35, 0, 1, 0]) (ss := []) fun ls st h q e => wk_startOnLeft_65_ok ih _ _ _ e) (px_k1 (px_ko (ts := [35, 0, 1, 0]) (ss := [1]) fun ls st h q e => wk_startOnLeft_66_ok ih _ _ _ _ e) px_k0)) 70 26 _ _ h q e
set_option maxRecDepth 200000 in
theorem wk_startOnLeft_ok {d : Nat} {x1 : Int32} {h : pH} {q : Int32 × pH} (e : wk_startOnLeft x1 h = some q) : px_Con (d + 3) 101 [.inr (.inl 25), .inl x1] h q :=
  px_con (X := pX_RX9) (b := prog_11_method_3_code) (nL := 4) (rt := none) rfl rfl (Nat.le_of_ble_eq_true rfl) rfl (px_blk_ok (d := d + 2) (M := (pX_RX9, prog_11_method_3_code, 4, none)) (C := wk_startOnLeft_orc) (code := wk_startOnLeft_code) (ld := [26]) (kl := [(26, fun ls st h => px_if (px_fit [35, 0, 1, 0] ls && px_fits [] st) (wk_startOnLeft_26 px_F (px_gi ls 2) h))]) (wk_startOnLeft_orc_ok) pX_ok_RX9 wk_startOnLeft_code_ok (px_k1 (px_ko (ts := [35, 0, 1, 0]) (ss := []) fun ls st h q e => wk_startOnLeft_26_ok _ _ _ _ e) px_k0) 70 0 _ _ _ q e)
/-! WordsUnsaid$Walk.start(I)V -/
noncomputable def wk_start_2 : Nat → Int32 → Int32 → pH → pR
  | 0, _, _, _ => none
  | n + 1, x1, x2, h =>
    if (px_c 10) ≤ x2 then
      px_bind (wk_startOnLeft x1 h) fun _ h2 =>
      some (0, h2)
    else
      px_bind (wu_at 8 x2 h) fun z3 h4 =>
      px_bind (wu_put 26 x2 z3 h4) fun _ h6 =>
      wk_start_2 n x1 (x2 + px_c 1) h6
noncomputable def wk_start (x1 : Int32) (h : pH) : pR :=
  wk_start_2 px_F x1 (px_c 0) h
def wk_start_code : pCode := [(0, .iconst 0, 1), (1, .istore_n 2, 1), (2, .iload_n 2, 1), (3, .bipush (10), 2), (5, .if_icmp .ge (28), 3), (8, .aload_n 0, 1), (9, .getfield 19, 3), (12, .iload_n 2, 1), (13, .aload_n 0, 1), (14, .getfield 9, 3), (17, .getfield 41, 3), (20, .iload_n 2, 1), (21, .invokestatic 44, 3), (24, .invokestatic 48, 3), (27, .iinc 2 (1), 3), (30, .goto (-28), 3), (33, .aload_n 0, 1), (34, .iload_n 1, 1), (35, .invokevirtual 52, 3), (38, .return_, 1)]
set_option maxRecDepth 200000 in
theorem wk_start_code_ok : px_code prog_11_method_2_code wk_start_code = true := by decide +kernel
noncomputable def wk_start_orc : pC := px_orc [(101, fun a h => match a with
    | [.inr (.inl 25), .inl v1] => wk_startOnLeft v1 h
    | _ => none), (158, fun a h => match a with
    | [.inr (.inl v0), .inl v1] => wu_at v0 v1 h
    | _ => none), (159, fun a h => match a with
    | [.inr (.inl v0), .inl v1, .inl v2] => wu_put v0 v1 v2 h
    | _ => none)]
theorem wk_start_orc_ok {d : Nat} : px_Or (d + 3) (wk_start_orc) := px_orc_ok (by
  refine px_o1 (fun a h q e => by
    dsimp only at e
    split at e
    · exact wk_startOnLeft_ok (d := d + 0) e
    · cases e) ?_
  refine px_o1 (fun a h q e => by
    dsimp only at e
    split at e
    · exact wu_at_ok (d := d + 2) e
    · cases e) ?_
  refine px_o1 (fun a h q e => by
    dsimp only at e
    split at e
    · exact wu_put_ok (d := d + 2) e
    · cases e) ?_
  exact px_o0)
set_option maxRecDepth 200000 in
theorem wk_start_2_ok {d : Nat} : ∀ (n : Nat) (x1 : Int32) (x2 : Int32) (h : pH) (q : Int32 × pH), wk_start_2 n x1 x2 h = some q → px_G (d + 3 + 1) (pX_RX9, prog_11_method_2_code, 3, none) 2 [some (.inr (.inl 25)), some (.inl x1), some (.inl x2)] [] h q := by
  intro n
  induction n with
  | zero =>
    intro x1 x2 h q e
    cases e
  | succ n ih =>
    intro x1 x2 h q e
    exact px_blk_ok (d := d + 3) (M := (pX_RX9, prog_11_method_2_code, 3, none)) (C := wk_start_orc) (code := wk_start_code) (ld := [2]) (kl := [(2, fun ls st h => px_if (px_fit [35, 1, 1] ls && px_fits [] st) (wk_start_2 n (px_gi ls 1) (px_gi ls 2) h))]) (wk_start_orc_ok) pX_ok_RX9 wk_start_code_ok (px_k1 (px_ko (ts := [35, 1, 1]) (ss := []) fun ls st h q e => ih _ _ _ _ e) px_k0) 25 2 _ _ h q e
set_option maxRecDepth 200000 in
theorem wk_start_ok {d : Nat} {x1 : Int32} {h : pH} {q : Int32 × pH} (e : wk_start x1 h = some q) : px_Con (d + 4) 100 [.inr (.inl 25), .inl x1] h q :=
  px_con (X := pX_RX9) (b := prog_11_method_2_code) (nL := 3) (rt := none) rfl rfl (Nat.le_of_ble_eq_true rfl) rfl (px_blk_ok (d := d + 3) (M := (pX_RX9, prog_11_method_2_code, 3, none)) (C := wk_start_orc) (code := wk_start_code) (ld := [2]) (kl := [(2, fun ls st h => px_if (px_fit [35, 1, 1] ls && px_fits [] st) (wk_start_2 px_F (px_gi ls 1) (px_gi ls 2) h))]) (wk_start_orc_ok) pX_ok_RX9 wk_start_code_ok (px_k1 (px_ko (ts := [35, 1, 1]) (ss := []) fun ls st h q e => wk_start_2_ok _ _ _ _ _ e) px_k0) 25 0 _ _ _ q e)
/-! WordsUnsaid$Walk.drop()I -/
noncomputable def wk_drop (h : pH) : pR :=
  if (h 25 9) = 0 then
    some (px_c 10, h)
  else
    let h1 := px_w h 25 9 ((h 25 9) - (px_c 1))
    px_bind (wu_at 27 (h1 25 9) h1) fun z2 h3 =>
    let h4 := px_w h3 25 11 ((h3 25 11) ||| ((px_c 1) <<< (z2 &&& 31)))
    some (z2, h4)
def wk_drop_code : pCode := [(0, .aload_n 0, 1), (1, .getfield 66, 3), (4, .ifCond .ne (6), 3), (7, .bipush (10), 2), (9, .ireturn, 1), (10, .aload_n 0, 1), (11, .dup, 1), (12, .getfield 66, 3), (15, .iconst 1, 1), (16, .isub, 1), (17, .putfield 66, 3), (20, .aload_n 0, 1), (21, .getfield 23, 3), (24, .aload_n 0, 1), (25, .getfield 66, 3), (28, .invokestatic 44, 3), (31, .istore_n 1, 1), (32, .aload_n 0, 1), (33, .dup, 1), (34, .getfield 69, 3), (37, .iconst 1, 1), (38, .iload_n 1, 1), (39, .ishl, 1), (40, .ior, 1), (41, .putfield 69, 3), (44, .iload_n 1, 1), (45, .ireturn, 1)]
set_option maxRecDepth 200000 in
theorem wk_drop_code_ok : px_code prog_11_method_6_code wk_drop_code = true := by decide +kernel
noncomputable def wk_drop_orc : pC := px_orc [(158, fun a h => match a with
    | [.inr (.inl v0), .inl v1] => wu_at v0 v1 h
    | _ => none)]
theorem wk_drop_orc_ok {d : Nat} : px_Or (d + 1) (wk_drop_orc) := px_orc_ok (by
  refine px_o1 (fun a h q e => by
    dsimp only at e
    split at e
    · exact wu_at_ok (d := d + 0) e
    · cases e) ?_
  exact px_o0)
set_option maxRecDepth 200000 in
theorem wk_drop_ok {d : Nat} {h : pH} {q : Int32 × pH} (e : wk_drop h = some q) : px_Con (d + 2) 104 [.inr (.inl 25)] h q :=
  px_con (X := pX_RX9) (b := prog_11_method_6_code) (nL := 2) (rt := (some .int)) rfl rfl (Nat.le_of_ble_eq_true rfl) rfl (px_blk_ok (d := d + 1) (M := (pX_RX9, prog_11_method_6_code, 2, (some .int))) (C := wk_drop_orc) (code := wk_drop_code) (ld := []) (kl := []) (wk_drop_orc_ok) pX_ok_RX9 wk_drop_code_ok (px_k0) 32 0 _ _ _ q e)
/-! WordsUnsaid$Walk.canReach()Z -/
noncomputable def wk_canReach_56 (s0 : Int32) (h : pH) : pR :=
  px_bz s0 h
noncomputable def wk_canReach_24 (s0 : Int32) (h : pH) : pR :=
  if (s0 + (((h 25 10) - (h 25 9)) * (h 25 12))) < (h 22 9) then
    wk_canReach_56 (px_c 0) h
  else
    wk_canReach_56 (px_c 1) h
noncomputable def wk_canReach (h : pH) : pR :=
  if (h 25 9) = 0 then
    wk_canReach_24 (px_c 0) h
  else
    px_bind (wu_at 30 ((h 25 9) - (px_c 1)) h) fun z1 h2 =>
    wk_canReach_24 z1 h2
def wk_canReach_code : pCode := [(0, .aload_n 0, 1), (1, .getfield 66, 3), (4, .ifCond .ne (7), 3), (7, .iconst 0, 1), (8, .goto (16), 3), (11, .aload_n 0, 1), (12, .getfield 32, 3), (15, .aload_n 0, 1), (16, .getfield 66, 3), (19, .iconst 1, 1), (20, .isub, 1), (21, .invokestatic 44, 3), (24, .istore_n 1, 1), (25, .iload_n 1, 1), (26, .aload_n 0, 1), (27, .getfield 62, 3), (30, .aload_n 0, 1), (31, .getfield 66, 3), (34, .isub, 1), (35, .aload_n 0, 1), (36, .getfield 72, 3), (39, .imul, 1), (40, .iadd, 1), (41, .aload_n 0, 1), (42, .getfield 15, 3), (45, .getfield 105, 3), (48, .if_icmp .lt (7), 3), (51, .iconst 1, 1), (52, .goto (4), 3), (55, .iconst 0, 1), (56, .ireturn, 1)]
set_option maxRecDepth 200000 in
theorem wk_canReach_code_ok : px_code prog_11_method_9_code wk_canReach_code = true := by decide +kernel
noncomputable def wk_canReach_orc : pC := px_orc [(158, fun a h => match a with
    | [.inr (.inl v0), .inl v1] => wu_at v0 v1 h
    | _ => none)]
theorem wk_canReach_orc_ok {d : Nat} : px_Or (d + 1) (wk_canReach_orc) := px_orc_ok (by
  refine px_o1 (fun a h q e => by
    dsimp only at e
    split at e
    · exact wu_at_ok (d := d + 0) e
    · cases e) ?_
  exact px_o0)
set_option maxRecDepth 200000 in
theorem wk_canReach_56_ok {d : Nat} : ∀ (s0 : Int32) (h : pH) (q : Int32 × pH), wk_canReach_56 s0 h = some q → px_G (d + 1 + 1) (pX_RX9, prog_11_method_9_code, 2, (some .boolean)) 56 [none, none] [.inl s0] h q := by
  intro s0 h q e
  exact px_blk_ok (d := d + 1) (M := (pX_RX9, prog_11_method_9_code, 2, (some .boolean))) (C := wk_canReach_orc) (code := wk_canReach_code) (ld := []) (kl := []) (wk_canReach_orc_ok) pX_ok_RX9 wk_canReach_code_ok (px_k0) 36 56 _ _ h q e
set_option maxRecDepth 200000 in
theorem wk_canReach_24_ok {d : Nat} : ∀ (s0 : Int32) (h : pH) (q : Int32 × pH), wk_canReach_24 s0 h = some q → px_G (d + 1 + 1) (pX_RX9, prog_11_method_9_code, 2, (some .boolean)) 24 [some (.inr (.inl 25)), none] [.inl s0] h q := by
  intro s0 h q e
  exact px_blk_ok (d := d + 1) (M := (pX_RX9, prog_11_method_9_code, 2, (some .boolean))) (C := wk_canReach_orc) (code := wk_canReach_code) (ld := [56]) (kl := [(56, fun ls st h => px_if (px_fit [0, 0] ls && px_fits [1] st) (wk_canReach_56 (px_si st 0) h))]) (wk_canReach_orc_ok) pX_ok_RX9 wk_canReach_code_ok (px_k1 (px_ko (ts := [0, 0]) (ss := [1]) fun ls st h q e => wk_canReach_56_ok _ _ _ e) px_k0) 36 24 _ _ h q e
set_option maxRecDepth 200000 in
theorem wk_canReach_ok {d : Nat} {h : pH} {q : Int32 × pH} (e : wk_canReach h = some q) : px_Con (d + 2) 107 [.inr (.inl 25)] h q :=
  px_con (X := pX_RX9) (b := prog_11_method_9_code) (nL := 2) (rt := (some .boolean)) rfl rfl (Nat.le_of_ble_eq_true rfl) rfl (px_blk_ok (d := d + 1) (M := (pX_RX9, prog_11_method_9_code, 2, (some .boolean))) (C := wk_canReach_orc) (code := wk_canReach_code) (ld := [24]) (kl := [(24, fun ls st h => px_if (px_fit [35, 0] ls && px_fits [1] st) (wk_canReach_24 (px_si st 0) h))]) (wk_canReach_orc_ok) pX_ok_RX9 wk_canReach_code_ok (px_k1 (px_ko (ts := [35, 0]) (ss := [1]) fun ls st h q e => wk_canReach_24_ok _ _ _ e) px_k0) 36 0 _ _ _ q e)
/-! WordsUnsaid$Walk.add(I)V -/
noncomputable def wk_add_213 (x3 : Int32) (x4 : Int32) (h : pH) : pR :=
  px_bind (wu_put 29 ((h 25 9) - (px_c 1)) x3 h) fun _ h2 =>
  px_bind (wu_put 31 ((h2 25 9) - (px_c 1)) x4 h2) fun _ h4 =>
  some (0, h4)
noncomputable def wk_add_206 (x3 : Int32) (x7 : Int32) (s0 : Int32) (h : pH) : pR :=
  let y3_1 := x3 + x7
  wk_add_213 y3_1 s0 h
noncomputable def wk_add_99 (x1 : Int32) (x3 : Int32) (x4 : Int32) (x5 : Int32) (s0 : Int32) (s1 : Int32) (s2 : Int32) (h : pH) : pR :=
  px_bind (wu_put 30 s2 (s1 + s0) h) fun _ h2 =>
  px_bind (wu_put 27 (h2 25 9) x1 h2) fun _ h4 =>
  let h5 := px_w h4 25 9 ((h4 25 9) + (px_c 1))
  let h6 := px_w h5 25 11 ((h5 25 11) &&& (((px_c 1) <<< (x1 &&& 31)) ^^^ (px_c (-1))))
  if x4 = (px_c (-1)) then
    if (h6 22 9) ≤ x3 then
      wk_add_213 x3 x4 h6
    else
      px_bind (wk_canReach h6) fun z7 h8 =>
      if z7 = 0 then
        wk_add_213 x3 x4 h8
      else
        let y6_9 := px_min x5 ((h8 22 9) - x3)
        px_bind (cr_kept x1 x5 x3 y6_9 h8) fun z10 h11 =>
        if y6_9 ≤ z10 then
          wk_add_206 x3 z10 (px_c (-1)) h11
        else
          wk_add_206 x3 z10 x1 h11
  else
    wk_add_213 x3 x4 h6
noncomputable def wk_add_56 (x1 : Int32) (x2 : Int32) (x3 : Int32) (s0 : Int32) (h : pH) : pR :=
  px_bind (wu_at 26 x1 h) fun z1 h2 =>
  if x2 = 0 then
    px_bind (wu_at 30 ((h2 25 9) - (px_c 1)) h2) fun z3 h4 =>
    wk_add_99 x1 x3 s0 z1 z3 z1 (h2 25 9) h4
  else
    wk_add_99 x1 x3 s0 z1 (px_c 0) z1 (h2 25 9) h2
noncomputable def wk_add_34 (x1 : Int32) (x2 : Int32) (s0 : Int32) (h : pH) : pR :=
  if x2 = 0 then
    px_bind (wu_at 31 ((h 25 9) - (px_c 1)) h) fun z1 h2 =>
    wk_add_56 x1 x2 s0 z1 h2
  else
    wk_add_56 x1 x2 s0 (px_c (-1)) h
noncomputable def wk_add_12 (x1 : Int32) (s0 : Int32) (h : pH) : pR :=
  if s0 = 0 then
    px_bind (wu_at 29 ((h 25 9) - (px_c 1)) h) fun z1 h2 =>
    wk_add_34 x1 s0 z1 h2
  else
    wk_add_34 x1 s0 (px_c 0) h
noncomputable def wk_add (x1 : Int32) (h : pH) : pR :=
  if (h 25 9) = 0 then
    wk_add_12 x1 (px_c 1) h
  else
    wk_add_12 x1 (px_c 0) h
def wk_add_code : pCode := [(0, .aload_n 0, 1), (1, .getfield 66, 3), (4, .ifCond .ne (7), 3), (7, .iconst 1, 1), (8, .goto (4), 3), (11, .iconst 0, 1), (12, .istore_n 2, 1), (13, .iload_n 2, 1), (14, .ifCond .eq (7), 3), (17, .iconst 0, 1), (18, .goto (16), 3), (21, .aload_n 0, 1), (22, .getfield 29, 3), (25, .aload_n 0, 1), (26, .getfield 66, 3), (29, .iconst 1, 1), (30, .isub, 1), (31, .invokestatic 44, 3), (34, .istore_n 3, 1), (35, .iload_n 2, 1), (36, .ifCond .eq (7), 3), (39, .iconst (-1), 1), (40, .goto (16), 3), (43, .aload_n 0, 1), (44, .getfield 35, 3), (47, .aload_n 0, 1), (48, .getfield 66, 3), (51, .iconst 1, 1), (52, .isub, 1), (53, .invokestatic 44, 3), (56, .istore 4, 2), (58, .aload_n 0, 1), (59, .getfield 19, 3), (62, .iload_n 1, 1), (63, .invokestatic 44, 3), (66, .istore 5, 2), (68, .aload_n 0, 1), (69, .getfield 32, 3), (72, .aload_n 0, 1), (73, .getfield 66, 3), (76, .iload 5, 2), (78, .iload_n 2, 1), (79, .ifCond .eq (7), 3), (82, .iconst 0, 1), (83, .goto (16), 3), (86, .aload_n 0, 1), (87, .getfield 32, 3), (90, .aload_n 0, 1), (91, .getfield 66, 3), (94, .iconst 1, 1), (95, .isub, 1), (96, .invokestatic 44, 3), (99, .iadd, 1), (100, .invokestatic 48, 3), (103, .aload_n 0, 1), (104, .getfield 23, 3), (107, .aload_n 0, 1), (108, .getfield 66, 3), (111, .iload_n 1, 1), (112, .invokestatic 48, 3), (115, .aload_n 0, 1), (116, .dup, 1), (117, .getfield 66, 3), (120, .iconst 1, 1), (121, .iadd, 1), (122, .putfield 66, 3), (125, .aload_n 0, 1), (126, .dup, 1), (127, .getfield 69, 3), (130, .iconst 1, 1), (131, .iload_n 1, 1), (132, .ishl, 1), (133, .iconst (-1), 1), (134, .ixor, 1), (135, .iand, 1), (136, .putfield 69, 3), (139, .iload 4, 2), (141, .iconst (-1), 1), (142, .if_icmp .ne (71), 3), (145, .iload_n 3, 1), (146, .aload_n 0, 1), (147, .getfield 15, 3), (150, .getfield 105, 3), (153, .if_icmp .ge (60), 3), (156, .aload_n 0, 1), (157, .invokevirtual 87, 3), (160, .ifCond .eq (53), 3), (163, .iload 5, 2), (165, .aload_n 0, 1), (166, .getfield 15, 3), (169, .getfield 105, 3), (172, .iload_n 3, 1), (173, .isub, 1), (174, .invokestatic 56, 3), (177, .istore 6, 2), (179, .aload_n 0, 1), (180, .getfield 15, 3), (183, .iload_n 1, 1), (184, .iload 5, 2), (186, .iload_n 3, 1), (187, .iload 6, 2), (189, .invokevirtual 107, 3), (192, .istore 7, 2), (194, .iload 7, 2), (196, .iload 6, 2), (198, .if_icmp .ge (7), 3), (201, .iload_n 1, 1), (202, .goto (4), 3), (205, .iconst (-1), 1), (206, .istore 4, 2), (208, .iload_n 3, 1), (209, .iload 7, 2), (211, .iadd, 1), (212, .istore_n 3, 1), (213, .aload_n 0, 1), (214, .getfield 29, 3), (217, .aload_n 0, 1), (218, .getfield 66, 3), (221, .iconst 1, 1), (222, .isub, 1), (223, .iload_n 3, 1), (224, .invokestatic 48, 3), (227, .aload_n 0, 1), (228, .getfield 35, 3), (231, .aload_n 0, 1), (232, .getfield 66, 3), (235, .iconst 1, 1), (236, .isub, 1), (237, .iload 4, 2), (239, .invokestatic 48, 3), (242, .return_, 1)]
set_option maxRecDepth 200000 in
theorem wk_add_code_ok : px_code prog_11_method_8_code wk_add_code = true := by decide +kernel
noncomputable def wk_add_orc : pC := px_orc [(159, fun a h => match a with
    | [.inr (.inl v0), .inl v1, .inl v2] => wu_put v0 v1 v2 h
    | _ => none), (107, fun a h => match a with
    | [.inr (.inl 25)] => wk_canReach h
    | _ => none), (12, fun a h => match a with
    | [.inr (.inl 22), .inl v1, .inl v2, .inl v3, .inl v4] => cr_kept v1 v2 v3 v4 h
    | _ => none), (158, fun a h => match a with
    | [.inr (.inl v0), .inl v1] => wu_at v0 v1 h
    | _ => none)]
theorem wk_add_orc_ok {d : Nat} : px_Or (d + 3) (wk_add_orc) := px_orc_ok (by
  refine px_o1 (fun a h q e => by
    dsimp only at e
    split at e
    · exact wu_put_ok (d := d + 2) e
    · cases e) ?_
  refine px_o1 (fun a h q e => by
    dsimp only at e
    split at e
    · exact wk_canReach_ok (d := d + 1) e
    · cases e) ?_
  refine px_o1 (fun a h q e => by
    dsimp only at e
    split at e
    · exact cr_kept_ok (d := d + 0) e
    · cases e) ?_
  refine px_o1 (fun a h q e => by
    dsimp only at e
    split at e
    · exact wu_at_ok (d := d + 2) e
    · cases e) ?_
  exact px_o0)
set_option maxRecDepth 200000 in
theorem wk_add_213_ok {d : Nat} : ∀ (x3 : Int32) (x4 : Int32) (h : pH) (q : Int32 × pH), wk_add_213 x3 x4 h = some q → px_G (d + 3 + 1) (pX_RX9, prog_11_method_8_code, 8, none) 213 [some (.inr (.inl 25)), none, none, some (.inl x3), some (.inl x4), none, none, none] [] h q := by
  intro x3 x4 h q e
  exact px_blk_ok (d := d + 3) (M := (pX_RX9, prog_11_method_8_code, 8, none)) (C := wk_add_orc) (code := wk_add_code) (ld := []) (kl := []) (wk_add_orc_ok) pX_ok_RX9 wk_add_code_ok (px_k0) 136 213 _ _ h q e
set_option maxRecDepth 200000 in
theorem wk_add_206_ok {d : Nat} : ∀ (x3 : Int32) (x7 : Int32) (s0 : Int32) (h : pH) (q : Int32 × pH), wk_add_206 x3 x7 s0 h = some q → px_G (d + 3 + 1) (pX_RX9, prog_11_method_8_code, 8, none) 206 [some (.inr (.inl 25)), none, none, some (.inl x3), none, none, none, some (.inl x7)] [.inl s0] h q := by
  intro x3 x7 s0 h q e
  exact px_blk_ok (d := d + 3) (M := (pX_RX9, prog_11_method_8_code, 8, none)) (C := wk_add_orc) (code := wk_add_code) (ld := [213]) (kl := [(213, fun ls st h => px_if (px_fit [35, 0, 0, 1, 1, 0, 0, 0] ls && px_fits [] st) (wk_add_213 (px_gi ls 3) (px_gi ls 4) h))]) (wk_add_orc_ok) pX_ok_RX9 wk_add_code_ok (px_k1 (px_ko (ts := [35, 0, 0, 1, 1, 0, 0, 0]) (ss := []) fun ls st h q e => wk_add_213_ok _ _ _ _ e) px_k0) 136 206 _ _ h q e
set_option maxRecDepth 200000 in
theorem wk_add_99_ok {d : Nat} : ∀ (x1 : Int32) (x3 : Int32) (x4 : Int32) (x5 : Int32) (s0 : Int32) (s1 : Int32) (s2 : Int32) (h : pH) (q : Int32 × pH), wk_add_99 x1 x3 x4 x5 s0 s1 s2 h = some q → px_G (d + 3 + 1) (pX_RX9, prog_11_method_8_code, 8, none) 99 [some (.inr (.inl 25)), some (.inl x1), none, some (.inl x3), some (.inl x4), some (.inl x5), none, none] [.inl s0, .inl s1, .inl s2, .inr (.inl 30)] h q := by
  intro x1 x3 x4 x5 s0 s1 s2 h q e
  exact px_blk_ok (d := d + 3) (M := (pX_RX9, prog_11_method_8_code, 8, none)) (C := wk_add_orc) (code := wk_add_code) (ld := [206, 213]) (kl := [(206, fun ls st h => px_if (px_fit [35, 0, 0, 1, 0, 0, 0, 1] ls && px_fits [1] st) (wk_add_206 (px_gi ls 3) (px_gi ls 7) (px_si st 0) h)), (213, fun ls st h => px_if (px_fit [35, 0, 0, 1, 1, 0, 0, 0] ls && px_fits [] st) (wk_add_213 (px_gi ls 3) (px_gi ls 4) h))]) (wk_add_orc_ok) pX_ok_RX9 wk_add_code_ok (px_k1 (px_ko (ts := [35, 0, 0, 1, 0, 0, 0, 1]) (ss := [1]) fun ls st h q e => wk_add_206_ok _ _ _ _ _ e) (px_k1 (px_ko (ts := [35, 0, 0, 1, 1, 0, 0, 0]) (ss := []) fun ls st h q e => wk_add_213_ok _ _ _ _ e) px_k0)) 136 99 _ _ h q e
set_option maxRecDepth 200000 in
theorem wk_add_56_ok {d : Nat} : ∀ (x1 : Int32) (x2 : Int32) (x3 : Int32) (s0 : Int32) (h : pH) (q : Int32 × pH), wk_add_56 x1 x2 x3 s0 h = some q → px_G (d + 3 + 1) (pX_RX9, prog_11_method_8_code, 8, none) 56 [some (.inr (.inl 25)), some (.inl x1), some (.inl x2), some (.inl x3), none, none, none, none] [.inl s0] h q := by
  intro x1 x2 x3 s0 h q e
  exact px_blk_ok (d := d + 3) (M := (pX_RX9, prog_11_method_8_code, 8, none)) (C := wk_add_orc) (code := wk_add_code) (ld := [99]) (kl := [(99, fun ls st h => px_if (px_fit [35, 1, 0, 1, 1, 1, 0, 0] ls && px_fits [1, 1, 1, 40] st) (wk_add_99 (px_gi ls 1) (px_gi ls 3) (px_gi ls 4) (px_gi ls 5) (px_si st 0) (px_si st 1) (px_si st 2) h))]) (wk_add_orc_ok) pX_ok_RX9 wk_add_code_ok (px_k1 (px_ko (ts := [35, 1, 0, 1, 1, 1, 0, 0]) (ss := [1, 1, 1, 40]) fun ls st h q e => wk_add_99_ok _ _ _ _ _ _ _ _ _ e) px_k0) 136 56 _ _ h q e
set_option maxRecDepth 200000 in
theorem wk_add_34_ok {d : Nat} : ∀ (x1 : Int32) (x2 : Int32) (s0 : Int32) (h : pH) (q : Int32 × pH), wk_add_34 x1 x2 s0 h = some q → px_G (d + 3 + 1) (pX_RX9, prog_11_method_8_code, 8, none) 34 [some (.inr (.inl 25)), some (.inl x1), some (.inl x2), none, none, none, none, none] [.inl s0] h q := by
  intro x1 x2 s0 h q e
  exact px_blk_ok (d := d + 3) (M := (pX_RX9, prog_11_method_8_code, 8, none)) (C := wk_add_orc) (code := wk_add_code) (ld := [56]) (kl := [(56, fun ls st h => px_if (px_fit [35, 1, 1, 1, 0, 0, 0, 0] ls && px_fits [1] st) (wk_add_56 (px_gi ls 1) (px_gi ls 2) (px_gi ls 3) (px_si st 0) h))]) (wk_add_orc_ok) pX_ok_RX9 wk_add_code_ok (px_k1 (px_ko (ts := [35, 1, 1, 1, 0, 0, 0, 0]) (ss := [1]) fun ls st h q e => wk_add_56_ok _ _ _ _ _ _ e) px_k0) 136 34 _ _ h q e
set_option maxRecDepth 200000 in
theorem wk_add_12_ok {d : Nat} : ∀ (x1 : Int32) (s0 : Int32) (h : pH) (q : Int32 × pH), wk_add_12 x1 s0 h = some q → px_G (d + 3 + 1) (pX_RX9, prog_11_method_8_code, 8, none) 12 [some (.inr (.inl 25)), some (.inl x1), none, none, none, none, none, none] [.inl s0] h q := by
  intro x1 s0 h q e
  exact px_blk_ok (d := d + 3) (M := (pX_RX9, prog_11_method_8_code, 8, none)) (C := wk_add_orc) (code := wk_add_code) (ld := [34]) (kl := [(34, fun ls st h => px_if (px_fit [35, 1, 1, 0, 0, 0, 0, 0] ls && px_fits [1] st) (wk_add_34 (px_gi ls 1) (px_gi ls 2) (px_si st 0) h))]) (wk_add_orc_ok) pX_ok_RX9 wk_add_code_ok (px_k1 (px_ko (ts := [35, 1, 1, 0, 0, 0, 0, 0]) (ss := [1]) fun ls st h q e => wk_add_34_ok _ _ _ _ _ e) px_k0) 136 12 _ _ h q e
set_option maxRecDepth 200000 in
theorem wk_add_ok {d : Nat} {x1 : Int32} {h : pH} {q : Int32 × pH} (e : wk_add x1 h = some q) : px_Con (d + 4) 106 [.inr (.inl 25), .inl x1] h q :=
  px_con (X := pX_RX9) (b := prog_11_method_8_code) (nL := 8) (rt := none) rfl rfl (Nat.le_of_ble_eq_true rfl) rfl (px_blk_ok (d := d + 3) (M := (pX_RX9, prog_11_method_8_code, 8, none)) (C := wk_add_orc) (code := wk_add_code) (ld := [12]) (kl := [(12, fun ls st h => px_if (px_fit [35, 1, 0, 0, 0, 0, 0, 0] ls && px_fits [1] st) (wk_add_12 (px_gi ls 1) (px_si st 0) h))]) (wk_add_orc_ok) pX_ok_RX9 wk_add_code_ok (px_k1 (px_ko (ts := [35, 1, 0, 0, 0, 0, 0, 0]) (ss := [1]) fun ls st h q e => wk_add_12_ok _ _ _ _ e) px_k0) 136 0 _ _ _ q e)
/-! WordsUnsaid$Walk.usableFrom(I)I -/
noncomputable def wk_usableFrom_2 : Nat → Int32 → pH → pR
  | 0, _, _ => none
  | n + 1, x2, h =>
    if (px_c 10) ≤ x2 then
      some (px_c (-1), h)
    else
      px_bind (wu_has (h 25 11) x2 h) fun z1 h2 =>
      if z1 = 0 then
        wk_usableFrom_2 n (x2 + px_c 1) h2
      else
        some (x2, h2)
noncomputable def wk_usableFrom (x1 : Int32) (h : pH) : pR :=
  wk_usableFrom_2 px_F x1 h
def wk_usableFrom_code : pCode := [(0, .iload_n 1, 1), (1, .istore_n 2, 1), (2, .iload_n 2, 1), (3, .bipush (10), 2), (5, .if_icmp .ge (22), 3), (8, .aload_n 0, 1), (9, .getfield 69, 3), (12, .iload_n 2, 1), (13, .invokestatic 102, 3), (16, .ifCond .eq (5), 3), (19, .iload_n 2, 1), (20, .ireturn, 1), (21, .iinc 2 (1), 3), (24, .goto (-22), 3), (27, .iconst (-1), 1), (28, .ireturn, 1)]
set_option maxRecDepth 200000 in
theorem wk_usableFrom_code_ok : px_code prog_11_method_7_code wk_usableFrom_code = true := by decide +kernel
noncomputable def wk_usableFrom_orc : pC := px_orc [(160, fun a h => match a with
    | [.inl v0, .inl v1] => wu_has v0 v1 h
    | _ => none)]
theorem wk_usableFrom_orc_ok {d : Nat} : px_Or (d + 1) (wk_usableFrom_orc) := px_orc_ok (by
  refine px_o1 (fun a h q e => by
    dsimp only at e
    split at e
    · exact wu_has_ok (d := d + 0) e
    · cases e) ?_
  exact px_o0)
set_option maxRecDepth 200000 in
theorem wk_usableFrom_2_ok {d : Nat} : ∀ (n : Nat) (x2 : Int32) (h : pH) (q : Int32 × pH), wk_usableFrom_2 n x2 h = some q → px_G (d + 1 + 1) (pX_RX9, prog_11_method_7_code, 3, (some .int)) 2 [some (.inr (.inl 25)), none, some (.inl x2)] [] h q := by
  intro n
  induction n with
  | zero =>
    intro x2 h q e
    cases e
  | succ n ih =>
    intro x2 h q e
    exact px_blk_ok (d := d + 1) (M := (pX_RX9, prog_11_method_7_code, 3, (some .int))) (C := wk_usableFrom_orc) (code := wk_usableFrom_code) (ld := [2]) (kl := [(2, fun ls st h => px_if (px_fit [35, 0, 1] ls && px_fits [] st) (wk_usableFrom_2 n (px_gi ls 2) h))]) (wk_usableFrom_orc_ok) pX_ok_RX9 wk_usableFrom_code_ok (px_k1 (px_ko (ts := [35, 0, 1]) (ss := []) fun ls st h q e => ih _ _ _ e) px_k0) 21 2 _ _ h q e
set_option maxRecDepth 200000 in
theorem wk_usableFrom_ok {d : Nat} {x1 : Int32} {h : pH} {q : Int32 × pH} (e : wk_usableFrom x1 h = some q) : px_Con (d + 2) 105 [.inr (.inl 25), .inl x1] h q :=
  px_con (X := pX_RX9) (b := prog_11_method_7_code) (nL := 3) (rt := (some .int)) rfl rfl (Nat.le_of_ble_eq_true rfl) rfl (px_blk_ok (d := d + 1) (M := (pX_RX9, prog_11_method_7_code, 3, (some .int))) (C := wk_usableFrom_orc) (code := wk_usableFrom_code) (ld := [2]) (kl := [(2, fun ls st h => px_if (px_fit [35, 0, 1] ls && px_fits [] st) (wk_usableFrom_2 px_F (px_gi ls 2) h))]) (wk_usableFrom_orc_ok) pX_ok_RX9 wk_usableFrom_code_ok (px_k1 (px_ko (ts := [35, 0, 1]) (ss := []) fun ls st h q e => wk_usableFrom_2_ok _ _ _ _ e) px_k0) 21 0 _ _ _ q e)
/-! WordsUnsaid$Walk.next(Z)Z -/
noncomputable def wk_next_60 (r35 : Int32 → Int32 → pH → pR) (x3 : Int32) (s0 : Int32) (h : pH) : pR :=
  if s0 = (px_c (-1)) then
    px_bind (wk_drop h) fun z1 h2 =>
    let y2_3 := z1 + (px_c 1)
    r35 y2_3 (x3 + px_c 1) h2
  else
    px_bind (wk_add s0 h) fun _ h5 =>
    px_bz (px_c 1) h5
noncomputable def wk_next_35 : Nat → Int32 → Int32 → pH → pR
  | 0, _, _, _ => none
  | n + 1, x2, x3, h =>
    if (px_c 4) < x3 then
      px_bz (px_c 0) h
    else
      if (h 25 10) ≤ (h 25 9) then
        wk_next_60 (wk_next_35 n) x3 (px_c (-1)) h
      else
        px_bind (wk_usableFrom x2 h) fun z1 h2 =>
        wk_next_60 (wk_next_35 n) x3 z1 h2
noncomputable def wk_next_32 (s0 : Int32) (h : pH) : pR :=
  wk_next_35 px_F s0 (px_c 0) h
noncomputable def wk_next_26 (h : pH) : pR :=
  px_bind (wk_drop h) fun z1 h2 =>
  wk_next_32 (z1 + (px_c 1)) h2
noncomputable def wk_next (x1 : Int32) (h : pH) : pR :=
  if x1 = 0 then
    wk_next_26 h
  else
    if (h 25 10) ≤ (h 25 9) then
      wk_next_26 h
    else
      px_bind (wk_canReach h) fun z1 h2 =>
      if z1 = 0 then
        wk_next_26 h2
      else
        wk_next_32 (px_c 0) h2
def wk_next_code : pCode := [(0, .iload_n 1, 1), (1, .ifCond .eq (25), 3), (4, .aload_n 0, 1), (5, .getfield 66, 3), (8, .aload_n 0, 1), (9, .getfield 62, 3), (12, .if_icmp .ge (14), 3), (15, .aload_n 0, 1), (16, .invokevirtual 87, 3), (19, .ifCond .eq (7), 3), (22, .iconst 0, 1), (23, .goto (9), 3), (26, .aload_n 0, 1), (27, .invokevirtual 91, 3), (30, .iconst 1, 1), (31, .iadd, 1), (32, .istore_n 2, 1), (33, .iconst 0, 1), (34, .istore_n 3, 1), (35, .iload_n 3, 1), (36, .iconst 4, 1), (37, .if_icmp .gt (52), 3), (40, .aload_n 0, 1), (41, .getfield 66, 3), (44, .aload_n 0, 1), (45, .getfield 62, 3), (48, .if_icmp .ge (11), 3), (51, .aload_n 0, 1), (52, .iload_n 2, 1), (53, .invokevirtual 95, 3), (56, .goto (4), 3), (59, .iconst (-1), 1), (60, .istore 4, 2), (62, .iload 4, 2), (64, .iconst (-1), 1), (65, .if_icmp .eq (11), 3), (68, .aload_n 0, 1), (69, .iload 4, 2), (71, .invokevirtual 99, 3), (74, .iconst 1, 1), (75, .ireturn, 1), (76, .aload_n 0, 1), (77, .invokevirtual 91, 3), (80, .iconst 1, 1), (81, .iadd, 1), (82, .istore_n 2, 1), (83, .iinc 3 (1), 3), (86, .goto (-51), 3), (89, .iconst 0, 1), (90, .ireturn, 1)]
set_option maxRecDepth 200000 in
theorem wk_next_code_ok : px_code prog_11_method_5_code wk_next_code = true := by decide +kernel
noncomputable def wk_next_orc : pC := px_orc [(104, fun a h => match a with
    | [.inr (.inl 25)] => wk_drop h
    | _ => none), (106, fun a h => match a with
    | [.inr (.inl 25), .inl v1] => wk_add v1 h
    | _ => none), (105, fun a h => match a with
    | [.inr (.inl 25), .inl v1] => wk_usableFrom v1 h
    | _ => none), (107, fun a h => match a with
    | [.inr (.inl 25)] => wk_canReach h
    | _ => none)]
theorem wk_next_orc_ok {d : Nat} : px_Or (d + 4) (wk_next_orc) := px_orc_ok (by
  refine px_o1 (fun a h q e => by
    dsimp only at e
    split at e
    · exact wk_drop_ok (d := d + 2) e
    · cases e) ?_
  refine px_o1 (fun a h q e => by
    dsimp only at e
    split at e
    · exact wk_add_ok (d := d + 0) e
    · cases e) ?_
  refine px_o1 (fun a h q e => by
    dsimp only at e
    split at e
    · exact wk_usableFrom_ok (d := d + 2) e
    · cases e) ?_
  refine px_o1 (fun a h q e => by
    dsimp only at e
    split at e
    · exact wk_canReach_ok (d := d + 2) e
    · cases e) ?_
  exact px_o0)
set_option maxRecDepth 200000 in
theorem wk_next_60_ok {d : Nat} {r35 : Int32 → Int32 → pH → pR} (hr35 : ∀ (x2 : Int32) (x3 : Int32) (h : pH) (q : Int32 × pH), r35 x2 x3 h = some q → px_G (d + 4 + 1) (pX_RX9, prog_11_method_5_code, 5, (some .boolean)) 35 [some (.inr (.inl 25)), none, some (.inl x2), some (.inl x3), none] [] h q) : ∀ (x3 : Int32) (s0 : Int32) (h : pH) (q : Int32 × pH), wk_next_60 r35 x3 s0 h = some q → px_G (d + 4 + 1) (pX_RX9, prog_11_method_5_code, 5, (some .boolean)) 60 [some (.inr (.inl 25)), none, none, some (.inl x3), none] [.inl s0] h q := by
  intro x3 s0 h q e
  exact px_blk_ok (d := d + 4) (M := (pX_RX9, prog_11_method_5_code, 5, (some .boolean))) (C := wk_next_orc) (code := wk_next_code) (ld := [35]) (kl := [(35, fun ls st h => px_if (px_fit [35, 0, 1, 1, 0] ls && px_fits [] st) (r35 (px_gi ls 2) (px_gi ls 3) h))]) (wk_next_orc_ok) pX_ok_RX9 wk_next_code_ok (px_k1 (px_ko (ts := [35, 0, 1, 1, 0]) (ss := []) fun ls st h q e => hr35 _ _ _ _ e) px_k0) 55 60 _ _ h q e
set_option maxRecDepth 200000 in
theorem wk_next_35_ok {d : Nat} : ∀ (n : Nat) (x2 : Int32) (x3 : Int32) (h : pH) (q : Int32 × pH), wk_next_35 n x2 x3 h = some q → px_G (d + 4 + 1) (pX_RX9, prog_11_method_5_code, 5, (some .boolean)) 35 [some (.inr (.inl 25)), none, some (.inl x2), some (.inl x3), none] [] h q := by
  intro n
  induction n with
  | zero =>
    intro x2 x3 h q e
    cases e
  | succ n ih =>
    intro x2 x3 h q e
    exact px_blk_ok (d := d + 4) (M := (pX_RX9, prog_11_method_5_code, 5, (some .boolean))) (C := wk_next_orc) (code := wk_next_code) (ld := [60]) (kl := [(60, fun ls st h => px_if (px_fit [35, 0, 0, 1, 0] ls && px_fits [1] st) (wk_next_60 (wk_next_35 n) (px_gi ls 3) (px_si st 0) h))]) (wk_next_orc_ok) pX_ok_RX9 wk_next_code_ok (px_k1 (px_ko (ts := [35, 0, 0, 1, 0]) (ss := [1]) fun ls st h q e => wk_next_60_ok ih _ _ _ _ e) px_k0) 55 35 _ _ h q e
set_option maxRecDepth 200000 in
theorem wk_next_32_ok {d : Nat} : ∀ (s0 : Int32) (h : pH) (q : Int32 × pH), wk_next_32 s0 h = some q → px_G (d + 4 + 1) (pX_RX9, prog_11_method_5_code, 5, (some .boolean)) 32 [some (.inr (.inl 25)), none, none, none, none] [.inl s0] h q := by
  intro s0 h q e
  exact px_blk_ok (d := d + 4) (M := (pX_RX9, prog_11_method_5_code, 5, (some .boolean))) (C := wk_next_orc) (code := wk_next_code) (ld := [35]) (kl := [(35, fun ls st h => px_if (px_fit [35, 0, 1, 1, 0] ls && px_fits [] st) (wk_next_35 px_F (px_gi ls 2) (px_gi ls 3) h))]) (wk_next_orc_ok) pX_ok_RX9 wk_next_code_ok (px_k1 (px_ko (ts := [35, 0, 1, 1, 0]) (ss := []) fun ls st h q e => wk_next_35_ok _ _ _ _ _ e) px_k0) 55 32 _ _ h q e
set_option maxRecDepth 200000 in
theorem wk_next_26_ok {d : Nat} : ∀ (h : pH) (q : Int32 × pH), wk_next_26 h = some q → px_G (d + 4 + 1) (pX_RX9, prog_11_method_5_code, 5, (some .boolean)) 26 [some (.inr (.inl 25)), none, none, none, none] [] h q := by
  intro h q e
  exact px_blk_ok (d := d + 4) (M := (pX_RX9, prog_11_method_5_code, 5, (some .boolean))) (C := wk_next_orc) (code := wk_next_code) (ld := [32]) (kl := [(32, fun ls st h => px_if (px_fit [35, 0, 0, 0, 0] ls && px_fits [1] st) (wk_next_32 (px_si st 0) h))]) (wk_next_orc_ok) pX_ok_RX9 wk_next_code_ok (px_k1 (px_ko (ts := [35, 0, 0, 0, 0]) (ss := [1]) fun ls st h q e => wk_next_32_ok _ _ _ e) px_k0) 55 26 _ _ h q e
set_option maxRecDepth 200000 in
theorem wk_next_ok {d : Nat} {x1 : Int32} {h : pH} {q : Int32 × pH} (e : wk_next x1 h = some q) : px_Con (d + 5) 103 [.inr (.inl 25), .inl x1] h q :=
  px_con (X := pX_RX9) (b := prog_11_method_5_code) (nL := 5) (rt := (some .boolean)) rfl rfl (Nat.le_of_ble_eq_true rfl) rfl (px_blk_ok (d := d + 4) (M := (pX_RX9, prog_11_method_5_code, 5, (some .boolean))) (C := wk_next_orc) (code := wk_next_code) (ld := [26, 32]) (kl := [(26, fun ls st h => px_if (px_fit [35, 0, 0, 0, 0] ls && px_fits [] st) (wk_next_26 h)), (32, fun ls st h => px_if (px_fit [35, 0, 0, 0, 0] ls && px_fits [1] st) (wk_next_32 (px_si st 0) h))]) (wk_next_orc_ok) pX_ok_RX9 wk_next_code_ok (px_k1 (px_ko (ts := [35, 0, 0, 0, 0]) (ss := []) fun ls st h q e => wk_next_26_ok _ _ e) (px_k1 (px_ko (ts := [35, 0, 0, 0, 0]) (ss := [1]) fun ls st h q e => wk_next_32_ok _ _ _ e) px_k0)) 55 0 _ _ _ q e)
/-! WordsUnsaid$Walk.crossed()I -/
noncomputable def wk_crossed (h : pH) : pR :=
  px_bind (wu_at 29 ((h 25 9) - (px_c 1)) h) fun z1 h2 =>
  some (z1, h2)
def wk_crossed_code : pCode := [(0, .aload_n 0, 1), (1, .getfield 29, 3), (4, .aload_n 0, 1), (5, .getfield 66, 3), (8, .iconst 1, 1), (9, .isub, 1), (10, .invokestatic 44, 3), (13, .ireturn, 1)]
set_option maxRecDepth 200000 in
theorem wk_crossed_code_ok : px_code prog_11_method_10_code wk_crossed_code = true := by decide +kernel
noncomputable def wk_crossed_orc : pC := px_orc [(158, fun a h => match a with
    | [.inr (.inl v0), .inl v1] => wu_at v0 v1 h
    | _ => none)]
theorem wk_crossed_orc_ok {d : Nat} : px_Or (d + 1) (wk_crossed_orc) := px_orc_ok (by
  refine px_o1 (fun a h q e => by
    dsimp only at e
    split at e
    · exact wu_at_ok (d := d + 0) e
    · cases e) ?_
  exact px_o0)
set_option maxRecDepth 200000 in
theorem wk_crossed_ok {d : Nat} {h : pH} {q : Int32 × pH} (e : wk_crossed h = some q) : px_Con (d + 2) 108 [.inr (.inl 25)] h q :=
  px_con (X := pX_RX9) (b := prog_11_method_10_code) (nL := 1) (rt := (some .int)) rfl rfl (Nat.le_of_ble_eq_true rfl) rfl (px_blk_ok (d := d + 1) (M := (pX_RX9, prog_11_method_10_code, 1, (some .int))) (C := wk_crossed_orc) (code := wk_crossed_code) (ld := []) (kl := []) (wk_crossed_orc_ok) pX_ok_RX9 wk_crossed_code_ok (px_k0) 13 0 _ _ _ q e)
/-! WordsUnsaid$Walk.saidThing()I -/
noncomputable def wk_saidThing (h : pH) : pR :=
  px_bind (wu_at 31 ((h 25 9) - (px_c 1)) h) fun z1 h2 =>
  some (z1, h2)
def wk_saidThing_code : pCode := [(0, .aload_n 0, 1), (1, .getfield 35, 3), (4, .aload_n 0, 1), (5, .getfield 66, 3), (8, .iconst 1, 1), (9, .isub, 1), (10, .invokestatic 44, 3), (13, .ireturn, 1)]
set_option maxRecDepth 200000 in
theorem wk_saidThing_code_ok : px_code prog_11_method_11_code wk_saidThing_code = true := by decide +kernel
noncomputable def wk_saidThing_orc : pC := px_orc [(158, fun a h => match a with
    | [.inr (.inl v0), .inl v1] => wu_at v0 v1 h
    | _ => none)]
theorem wk_saidThing_orc_ok {d : Nat} : px_Or (d + 1) (wk_saidThing_orc) := px_orc_ok (by
  refine px_o1 (fun a h q e => by
    dsimp only at e
    split at e
    · exact wu_at_ok (d := d + 0) e
    · cases e) ?_
  exact px_o0)
set_option maxRecDepth 200000 in
theorem wk_saidThing_ok {d : Nat} {h : pH} {q : Int32 × pH} (e : wk_saidThing h = some q) : px_Con (d + 2) 109 [.inr (.inl 25)] h q :=
  px_con (X := pX_RX9) (b := prog_11_method_11_code) (nL := 1) (rt := (some .int)) rfl rfl (Nat.le_of_ble_eq_true rfl) rfl (px_blk_ok (d := d + 1) (M := (pX_RX9, prog_11_method_11_code, 1, (some .int))) (C := wk_saidThing_orc) (code := wk_saidThing_code) (ld := []) (kl := []) (wk_saidThing_orc_ok) pX_ok_RX9 wk_saidThing_code_ok (px_k0) 13 0 _ _ _ q e)
/-! WordsUnsaid$Walk.isUnderWay()Z -/
noncomputable def wk_isUnderWay_27 (s0 : Int32) (h : pH) : pR :=
  px_bz s0 h
noncomputable def wk_isUnderWay_26 (h : pH) : pR :=
  wk_isUnderWay_27 (px_c 0) h
noncomputable def wk_isUnderWay (h : pH) : pR :=
  px_bind (wk_saidThing h) fun z1 h2 =>
  if z1 = (px_c (-1)) then
    px_bind (wk_crossed h2) fun z3 h4 =>
    if (h4 22 9) ≤ z3 then
      wk_isUnderWay_26 h4
    else
      wk_isUnderWay_27 (px_c 1) h4
  else
    wk_isUnderWay_26 h2
def wk_isUnderWay_code : pCode := [(0, .aload_n 0, 1), (1, .invokevirtual 111, 3), (4, .iconst (-1), 1), (5, .if_icmp .ne (21), 3), (8, .aload_n 0, 1), (9, .invokevirtual 114, 3), (12, .aload_n 0, 1), (13, .getfield 15, 3), (16, .getfield 105, 3), (19, .if_icmp .ge (7), 3), (22, .iconst 1, 1), (23, .goto (4), 3), (26, .iconst 0, 1), (27, .ireturn, 1)]
set_option maxRecDepth 200000 in
theorem wk_isUnderWay_code_ok : px_code prog_11_method_12_code wk_isUnderWay_code = true := by decide +kernel
noncomputable def wk_isUnderWay_orc : pC := px_orc [(109, fun a h => match a with
    | [.inr (.inl 25)] => wk_saidThing h
    | _ => none), (108, fun a h => match a with
    | [.inr (.inl 25)] => wk_crossed h
    | _ => none)]
theorem wk_isUnderWay_orc_ok {d : Nat} : px_Or (d + 2) (wk_isUnderWay_orc) := px_orc_ok (by
  refine px_o1 (fun a h q e => by
    dsimp only at e
    split at e
    · exact wk_saidThing_ok (d := d + 0) e
    · cases e) ?_
  refine px_o1 (fun a h q e => by
    dsimp only at e
    split at e
    · exact wk_crossed_ok (d := d + 0) e
    · cases e) ?_
  exact px_o0)
set_option maxRecDepth 200000 in
theorem wk_isUnderWay_27_ok {d : Nat} : ∀ (s0 : Int32) (h : pH) (q : Int32 × pH), wk_isUnderWay_27 s0 h = some q → px_G (d + 2 + 1) (pX_RX9, prog_11_method_12_code, 1, (some .boolean)) 27 [none] [.inl s0] h q := by
  intro s0 h q e
  exact px_blk_ok (d := d + 2) (M := (pX_RX9, prog_11_method_12_code, 1, (some .boolean))) (C := wk_isUnderWay_orc) (code := wk_isUnderWay_code) (ld := []) (kl := []) (wk_isUnderWay_orc_ok) pX_ok_RX9 wk_isUnderWay_code_ok (px_k0) 19 27 _ _ h q e
set_option maxRecDepth 200000 in
theorem wk_isUnderWay_26_ok {d : Nat} : ∀ (h : pH) (q : Int32 × pH), wk_isUnderWay_26 h = some q → px_G (d + 2 + 1) (pX_RX9, prog_11_method_12_code, 1, (some .boolean)) 26 [none] [] h q := by
  intro h q e
  exact px_blk_ok (d := d + 2) (M := (pX_RX9, prog_11_method_12_code, 1, (some .boolean))) (C := wk_isUnderWay_orc) (code := wk_isUnderWay_code) (ld := [27]) (kl := [(27, fun ls st h => px_if (px_fit [0] ls && px_fits [1] st) (wk_isUnderWay_27 (px_si st 0) h))]) (wk_isUnderWay_orc_ok) pX_ok_RX9 wk_isUnderWay_code_ok (px_k1 (px_ko (ts := [0]) (ss := [1]) fun ls st h q e => wk_isUnderWay_27_ok _ _ _ e) px_k0) 19 26 _ _ h q e
set_option maxRecDepth 200000 in
theorem wk_isUnderWay_ok {d : Nat} {h : pH} {q : Int32 × pH} (e : wk_isUnderWay h = some q) : px_Con (d + 3) 110 [.inr (.inl 25)] h q :=
  px_con (X := pX_RX9) (b := prog_11_method_12_code) (nL := 1) (rt := (some .boolean)) rfl rfl (Nat.le_of_ble_eq_true rfl) rfl (px_blk_ok (d := d + 2) (M := (pX_RX9, prog_11_method_12_code, 1, (some .boolean))) (C := wk_isUnderWay_orc) (code := wk_isUnderWay_code) (ld := [26, 27]) (kl := [(26, fun ls st h => px_if (px_fit [0] ls && px_fits [] st) (wk_isUnderWay_26 h)), (27, fun ls st h => px_if (px_fit [0] ls && px_fits [1] st) (wk_isUnderWay_27 (px_si st 0) h))]) (wk_isUnderWay_orc_ok) pX_ok_RX9 wk_isUnderWay_code_ok (px_k1 (px_ko (ts := [0]) (ss := []) fun ls st h q e => wk_isUnderWay_26_ok _ _ e) (px_k1 (px_ko (ts := [0]) (ss := [1]) fun ls st h q e => wk_isUnderWay_27_ok _ _ _ e) px_k0)) 19 0 _ _ _ q e)
/-! WordsUnsaid$Walk.isOver()Z -/
noncomputable def wk_isOver_27 (s0 : Int32) (h : pH) : pR :=
  px_bz s0 h
noncomputable def wk_isOver_26 (h : pH) : pR :=
  wk_isOver_27 (px_c 0) h
noncomputable def wk_isOver (h : pH) : pR :=
  px_bind (wk_saidThing h) fun z1 h2 =>
  if z1 = (px_c (-1)) then
    px_bind (wk_crossed h2) fun z3 h4 =>
    if z3 = (h4 22 9) then
      wk_isOver_27 (px_c 1) h4
    else
      wk_isOver_26 h4
  else
    wk_isOver_26 h2
def wk_isOver_code : pCode := [(0, .aload_n 0, 1), (1, .invokevirtual 111, 3), (4, .iconst (-1), 1), (5, .if_icmp .ne (21), 3), (8, .aload_n 0, 1), (9, .invokevirtual 114, 3), (12, .aload_n 0, 1), (13, .getfield 15, 3), (16, .getfield 105, 3), (19, .if_icmp .ne (7), 3), (22, .iconst 1, 1), (23, .goto (4), 3), (26, .iconst 0, 1), (27, .ireturn, 1)]
set_option maxRecDepth 200000 in
theorem wk_isOver_code_ok : px_code prog_11_method_13_code wk_isOver_code = true := by decide +kernel
noncomputable def wk_isOver_orc : pC := px_orc [(109, fun a h => match a with
    | [.inr (.inl 25)] => wk_saidThing h
    | _ => none), (108, fun a h => match a with
    | [.inr (.inl 25)] => wk_crossed h
    | _ => none)]
theorem wk_isOver_orc_ok {d : Nat} : px_Or (d + 2) (wk_isOver_orc) := px_orc_ok (by
  refine px_o1 (fun a h q e => by
    dsimp only at e
    split at e
    · exact wk_saidThing_ok (d := d + 0) e
    · cases e) ?_
  refine px_o1 (fun a h q e => by
    dsimp only at e
    split at e
    · exact wk_crossed_ok (d := d + 0) e
    · cases e) ?_
  exact px_o0)
set_option maxRecDepth 200000 in
theorem wk_isOver_27_ok {d : Nat} : ∀ (s0 : Int32) (h : pH) (q : Int32 × pH), wk_isOver_27 s0 h = some q → px_G (d + 2 + 1) (pX_RX9, prog_11_method_13_code, 1, (some .boolean)) 27 [none] [.inl s0] h q := by
  intro s0 h q e
  exact px_blk_ok (d := d + 2) (M := (pX_RX9, prog_11_method_13_code, 1, (some .boolean))) (C := wk_isOver_orc) (code := wk_isOver_code) (ld := []) (kl := []) (wk_isOver_orc_ok) pX_ok_RX9 wk_isOver_code_ok (px_k0) 19 27 _ _ h q e
set_option maxRecDepth 200000 in
theorem wk_isOver_26_ok {d : Nat} : ∀ (h : pH) (q : Int32 × pH), wk_isOver_26 h = some q → px_G (d + 2 + 1) (pX_RX9, prog_11_method_13_code, 1, (some .boolean)) 26 [none] [] h q := by
  intro h q e
  exact px_blk_ok (d := d + 2) (M := (pX_RX9, prog_11_method_13_code, 1, (some .boolean))) (C := wk_isOver_orc) (code := wk_isOver_code) (ld := [27]) (kl := [(27, fun ls st h => px_if (px_fit [0] ls && px_fits [1] st) (wk_isOver_27 (px_si st 0) h))]) (wk_isOver_orc_ok) pX_ok_RX9 wk_isOver_code_ok (px_k1 (px_ko (ts := [0]) (ss := [1]) fun ls st h q e => wk_isOver_27_ok _ _ _ e) px_k0) 19 26 _ _ h q e
set_option maxRecDepth 200000 in
theorem wk_isOver_ok {d : Nat} {h : pH} {q : Int32 × pH} (e : wk_isOver h = some q) : px_Con (d + 3) 111 [.inr (.inl 25)] h q :=
  px_con (X := pX_RX9) (b := prog_11_method_13_code) (nL := 1) (rt := (some .boolean)) rfl rfl (Nat.le_of_ble_eq_true rfl) rfl (px_blk_ok (d := d + 2) (M := (pX_RX9, prog_11_method_13_code, 1, (some .boolean))) (C := wk_isOver_orc) (code := wk_isOver_code) (ld := [26, 27]) (kl := [(26, fun ls st h => px_if (px_fit [0] ls && px_fits [] st) (wk_isOver_26 h)), (27, fun ls st h => px_if (px_fit [0] ls && px_fits [1] st) (wk_isOver_27 (px_si st 0) h))]) (wk_isOver_orc_ok) pX_ok_RX9 wk_isOver_code_ok (px_k1 (px_ko (ts := [0]) (ss := []) fun ls st h q e => wk_isOver_26_ok _ _ e) (px_k1 (px_ko (ts := [0]) (ss := [1]) fun ls st h q e => wk_isOver_27_ok _ _ _ e) px_k0)) 19 0 _ _ _ q e)
/-! WordsUnsaid$Walk.isBurst()Z -/
noncomputable def wk_isBurst_36 (s0 : Int32) (h : pH) : pR :=
  px_bz s0 h
noncomputable def wk_isBurst_35 (h : pH) : pR :=
  wk_isBurst_36 (px_c 0) h
noncomputable def wk_isBurst (h : pH) : pR :=
  px_bind (wk_saidThing h) fun z1 h2 =>
  if z1 = (px_c (-1)) then
    wk_isBurst_35 h2
  else
    px_bind (wu_at 30 ((h2 25 9) - (px_c 1)) h2) fun z3 h4 =>
    if z3 < (h4 22 9) then
      wk_isBurst_35 h4
    else
      wk_isBurst_36 (px_c 1) h4
def wk_isBurst_code : pCode := [(0, .aload_n 0, 1), (1, .invokevirtual 111, 3), (4, .iconst (-1), 1), (5, .if_icmp .eq (30), 3), (8, .aload_n 0, 1), (9, .getfield 32, 3), (12, .aload_n 0, 1), (13, .getfield 66, 3), (16, .iconst 1, 1), (17, .isub, 1), (18, .invokestatic 44, 3), (21, .aload_n 0, 1), (22, .getfield 15, 3), (25, .getfield 105, 3), (28, .if_icmp .lt (7), 3), (31, .iconst 1, 1), (32, .goto (4), 3), (35, .iconst 0, 1), (36, .ireturn, 1)]
set_option maxRecDepth 200000 in
theorem wk_isBurst_code_ok : px_code prog_11_method_14_code wk_isBurst_code = true := by decide +kernel
noncomputable def wk_isBurst_orc : pC := px_orc [(109, fun a h => match a with
    | [.inr (.inl 25)] => wk_saidThing h
    | _ => none), (158, fun a h => match a with
    | [.inr (.inl v0), .inl v1] => wu_at v0 v1 h
    | _ => none)]
theorem wk_isBurst_orc_ok {d : Nat} : px_Or (d + 2) (wk_isBurst_orc) := px_orc_ok (by
  refine px_o1 (fun a h q e => by
    dsimp only at e
    split at e
    · exact wk_saidThing_ok (d := d + 0) e
    · cases e) ?_
  refine px_o1 (fun a h q e => by
    dsimp only at e
    split at e
    · exact wu_at_ok (d := d + 1) e
    · cases e) ?_
  exact px_o0)
set_option maxRecDepth 200000 in
theorem wk_isBurst_36_ok {d : Nat} : ∀ (s0 : Int32) (h : pH) (q : Int32 × pH), wk_isBurst_36 s0 h = some q → px_G (d + 2 + 1) (pX_RX9, prog_11_method_14_code, 1, (some .boolean)) 36 [none] [.inl s0] h q := by
  intro s0 h q e
  exact px_blk_ok (d := d + 2) (M := (pX_RX9, prog_11_method_14_code, 1, (some .boolean))) (C := wk_isBurst_orc) (code := wk_isBurst_code) (ld := []) (kl := []) (wk_isBurst_orc_ok) pX_ok_RX9 wk_isBurst_code_ok (px_k0) 24 36 _ _ h q e
set_option maxRecDepth 200000 in
theorem wk_isBurst_35_ok {d : Nat} : ∀ (h : pH) (q : Int32 × pH), wk_isBurst_35 h = some q → px_G (d + 2 + 1) (pX_RX9, prog_11_method_14_code, 1, (some .boolean)) 35 [none] [] h q := by
  intro h q e
  exact px_blk_ok (d := d + 2) (M := (pX_RX9, prog_11_method_14_code, 1, (some .boolean))) (C := wk_isBurst_orc) (code := wk_isBurst_code) (ld := [36]) (kl := [(36, fun ls st h => px_if (px_fit [0] ls && px_fits [1] st) (wk_isBurst_36 (px_si st 0) h))]) (wk_isBurst_orc_ok) pX_ok_RX9 wk_isBurst_code_ok (px_k1 (px_ko (ts := [0]) (ss := [1]) fun ls st h q e => wk_isBurst_36_ok _ _ _ e) px_k0) 24 35 _ _ h q e
set_option maxRecDepth 200000 in
theorem wk_isBurst_ok {d : Nat} {h : pH} {q : Int32 × pH} (e : wk_isBurst h = some q) : px_Con (d + 3) 112 [.inr (.inl 25)] h q :=
  px_con (X := pX_RX9) (b := prog_11_method_14_code) (nL := 1) (rt := (some .boolean)) rfl rfl (Nat.le_of_ble_eq_true rfl) rfl (px_blk_ok (d := d + 2) (M := (pX_RX9, prog_11_method_14_code, 1, (some .boolean))) (C := wk_isBurst_orc) (code := wk_isBurst_code) (ld := [35, 36]) (kl := [(35, fun ls st h => px_if (px_fit [0] ls && px_fits [] st) (wk_isBurst_35 h)), (36, fun ls st h => px_if (px_fit [0] ls && px_fits [1] st) (wk_isBurst_36 (px_si st 0) h))]) (wk_isBurst_orc_ok) pX_ok_RX9 wk_isBurst_code_ok (px_k1 (px_ko (ts := [0]) (ss := []) fun ls st h q e => wk_isBurst_35_ok _ _ e) (px_k1 (px_ko (ts := [0]) (ss := [1]) fun ls st h q e => wk_isBurst_36_ok _ _ _ e) px_k0)) 24 0 _ _ _ q e)
/-! WordsUnsaid$Walk.copyToBest()V -/
noncomputable def wk_copyToBest_2 : Nat → Int32 → pH → pR
  | 0, _, _ => none
  | n + 1, x1, h =>
    if (h 25 9) ≤ x1 then
      some (0, h)
    else
      px_bind (wu_at 27 x1 h) fun z1 h2 =>
      px_bind (wu_put 28 x1 z1 h2) fun _ h4 =>
      wk_copyToBest_2 n (x1 + px_c 1) h4
noncomputable def wk_copyToBest (h : pH) : pR :=
  wk_copyToBest_2 px_F (px_c 0) h
def wk_copyToBest_code : pCode := [(0, .iconst 0, 1), (1, .istore_n 1, 1), (2, .iload_n 1, 1), (3, .aload_n 0, 1), (4, .getfield 66, 3), (7, .if_icmp .ge (25), 3), (10, .aload_n 0, 1), (11, .getfield 26, 3), (14, .iload_n 1, 1), (15, .aload_n 0, 1), (16, .getfield 23, 3), (19, .iload_n 1, 1), (20, .invokestatic 44, 3), (23, .invokestatic 48, 3), (26, .iinc 1 (1), 3), (29, .goto (-27), 3), (32, .return_, 1)]
set_option maxRecDepth 200000 in
theorem wk_copyToBest_code_ok : px_code prog_11_method_16_code wk_copyToBest_code = true := by decide +kernel
noncomputable def wk_copyToBest_orc : pC := px_orc [(158, fun a h => match a with
    | [.inr (.inl v0), .inl v1] => wu_at v0 v1 h
    | _ => none), (159, fun a h => match a with
    | [.inr (.inl v0), .inl v1, .inl v2] => wu_put v0 v1 v2 h
    | _ => none)]
theorem wk_copyToBest_orc_ok {d : Nat} : px_Or (d + 1) (wk_copyToBest_orc) := px_orc_ok (by
  refine px_o1 (fun a h q e => by
    dsimp only at e
    split at e
    · exact wu_at_ok (d := d + 0) e
    · cases e) ?_
  refine px_o1 (fun a h q e => by
    dsimp only at e
    split at e
    · exact wu_put_ok (d := d + 0) e
    · cases e) ?_
  exact px_o0)
set_option maxRecDepth 200000 in
theorem wk_copyToBest_2_ok {d : Nat} : ∀ (n : Nat) (x1 : Int32) (h : pH) (q : Int32 × pH), wk_copyToBest_2 n x1 h = some q → px_G (d + 1 + 1) (pX_RX9, prog_11_method_16_code, 2, none) 2 [some (.inr (.inl 25)), some (.inl x1)] [] h q := by
  intro n
  induction n with
  | zero =>
    intro x1 h q e
    cases e
  | succ n ih =>
    intro x1 h q e
    exact px_blk_ok (d := d + 1) (M := (pX_RX9, prog_11_method_16_code, 2, none)) (C := wk_copyToBest_orc) (code := wk_copyToBest_code) (ld := [2]) (kl := [(2, fun ls st h => px_if (px_fit [35, 1] ls && px_fits [] st) (wk_copyToBest_2 n (px_gi ls 1) h))]) (wk_copyToBest_orc_ok) pX_ok_RX9 wk_copyToBest_code_ok (px_k1 (px_ko (ts := [35, 1]) (ss := []) fun ls st h q e => ih _ _ _ e) px_k0) 22 2 _ _ h q e
set_option maxRecDepth 200000 in
theorem wk_copyToBest_ok {d : Nat} {h : pH} {q : Int32 × pH} (e : wk_copyToBest h = some q) : px_Con (d + 2) 114 [.inr (.inl 25)] h q :=
  px_con (X := pX_RX9) (b := prog_11_method_16_code) (nL := 2) (rt := none) rfl rfl (Nat.le_of_ble_eq_true rfl) rfl (px_blk_ok (d := d + 1) (M := (pX_RX9, prog_11_method_16_code, 2, none)) (C := wk_copyToBest_orc) (code := wk_copyToBest_code) (ld := [2]) (kl := [(2, fun ls st h => px_if (px_fit [35, 1] ls && px_fits [] st) (wk_copyToBest_2 px_F (px_gi ls 1) h))]) (wk_copyToBest_orc_ok) pX_ok_RX9 wk_copyToBest_code_ok (px_k1 (px_ko (ts := [35, 1]) (ss := []) fun ls st h q e => wk_copyToBest_2_ok _ _ _ _ e) px_k0) 22 0 _ _ _ q e)
/-! WordsUnsaid$Walk.findShortest()I -/
noncomputable def wk_findShortest_57 (x1 : Int32) (h : pH) : pR :=
  some (x1, h)
noncomputable def wk_findShortest_51 (r6 : Int32 → Int32 → Int32 → pH → pR) (x1 : Int32) (x2 : Int32) (x3 : Int32) (h : pH) : pR :=
  r6 x1 x2 (x3 + px_c 1) h
noncomputable def wk_findShortest_6 : Nat → Int32 → Int32 → Int32 → pH → pR
  | 0, _, _, _, _ => none
  | n + 1, x1, x2, x3, h =>
    if (px_k 1000000) ≤ x3 then
      wk_findShortest_57 x1 h
    else
      px_bind (wk_next x2 h) fun z1 h2 =>
      if z1 = 0 then
        wk_findShortest_57 x1 h2
      else
        px_bind (wk_isUnderWay h2) fun z3 h4 =>
        px_bind (wk_isOver h4) fun z5 h6 =>
        if z5 = 0 then
          wk_findShortest_51 (wk_findShortest_6 n) x1 z3 x3 h6
        else
          let y1_7 := h6 25 9
          let h8 := px_w h6 25 10 ((h6 25 9) - (px_c 1))
          px_bind (wk_copyToBest h8) fun _ h10 =>
          wk_findShortest_51 (wk_findShortest_6 n) y1_7 z3 x3 h10
noncomputable def wk_findShortest (h : pH) : pR :=
  wk_findShortest_6 px_F (px_c 0) (px_c 1) (px_c 0) h
def wk_findShortest_code : pCode := [(0, .iconst 0, 1), (1, .istore_n 1, 1), (2, .iconst 1, 1), (3, .istore_n 2, 1), (4, .iconst 0, 1), (5, .istore_n 3, 1), (6, .iload_n 3, 1), (7, .ldc 117, 2), (9, .if_icmp .ge (48), 3), (12, .aload_n 0, 1), (13, .iload_n 2, 1), (14, .invokevirtual 118, 3), (17, .ifCond .eq (40), 3), (20, .aload_n 0, 1), (21, .invokevirtual 122, 3), (24, .istore_n 2, 1), (25, .aload_n 0, 1), (26, .invokevirtual 125, 3), (29, .ifCond .eq (22), 3), (32, .aload_n 0, 1), (33, .getfield 66, 3), (36, .istore_n 1, 1), (37, .aload_n 0, 1), (38, .aload_n 0, 1), (39, .getfield 66, 3), (42, .iconst 1, 1), (43, .isub, 1), (44, .putfield 62, 3), (47, .aload_n 0, 1), (48, .invokevirtual 128, 3), (51, .iinc 3 (1), 3), (54, .goto (-48), 3), (57, .iload_n 1, 1), (58, .ireturn, 1)]
set_option maxRecDepth 200000 in
theorem wk_findShortest_code_ok : px_code prog_11_method_15_code wk_findShortest_code = true := by decide +kernel
noncomputable def wk_findShortest_orc : pC := px_orc [(103, fun a h => match a with
    | [.inr (.inl 25), .inl v1] => wk_next v1 h
    | _ => none), (110, fun a h => match a with
    | [.inr (.inl 25)] => wk_isUnderWay h
    | _ => none), (111, fun a h => match a with
    | [.inr (.inl 25)] => wk_isOver h
    | _ => none), (114, fun a h => match a with
    | [.inr (.inl 25)] => wk_copyToBest h
    | _ => none)]
theorem wk_findShortest_orc_ok {d : Nat} : px_Or (d + 5) (wk_findShortest_orc) := px_orc_ok (by
  refine px_o1 (fun a h q e => by
    dsimp only at e
    split at e
    · exact wk_next_ok (d := d + 0) e
    · cases e) ?_
  refine px_o1 (fun a h q e => by
    dsimp only at e
    split at e
    · exact wk_isUnderWay_ok (d := d + 2) e
    · cases e) ?_
  refine px_o1 (fun a h q e => by
    dsimp only at e
    split at e
    · exact wk_isOver_ok (d := d + 2) e
    · cases e) ?_
  refine px_o1 (fun a h q e => by
    dsimp only at e
    split at e
    · exact wk_copyToBest_ok (d := d + 3) e
    · cases e) ?_
  exact px_o0)
set_option maxRecDepth 200000 in
theorem wk_findShortest_57_ok {d : Nat} : ∀ (x1 : Int32) (h : pH) (q : Int32 × pH), wk_findShortest_57 x1 h = some q → px_G (d + 5 + 1) (pX_RX9, prog_11_method_15_code, 4, (some .int)) 57 [none, some (.inl x1), none, none] [] h q := by
  intro x1 h q e
  exact px_blk_ok (d := d + 5) (M := (pX_RX9, prog_11_method_15_code, 4, (some .int))) (C := wk_findShortest_orc) (code := wk_findShortest_code) (ld := []) (kl := []) (wk_findShortest_orc_ok) pX_ok_RX9 wk_findShortest_code_ok (px_k0) 39 57 _ _ h q e
set_option maxRecDepth 200000 in
theorem wk_findShortest_51_ok {d : Nat} {r6 : Int32 → Int32 → Int32 → pH → pR} (hr6 : ∀ (x1 : Int32) (x2 : Int32) (x3 : Int32) (h : pH) (q : Int32 × pH), r6 x1 x2 x3 h = some q → px_G (d + 5 + 1) (pX_RX9, prog_11_method_15_code, 4, (some .int)) 6 [some (.inr (.inl 25)), some (.inl x1), some (.inl x2), some (.inl x3)] [] h q) : ∀ (x1 : Int32) (x2 : Int32) (x3 : Int32) (h : pH) (q : Int32 × pH), wk_findShortest_51 r6 x1 x2 x3 h = some q → px_G (d + 5 + 1) (pX_RX9, prog_11_method_15_code, 4, (some .int)) 51 [some (.inr (.inl 25)), some (.inl x1), some (.inl x2), some (.inl x3)] [] h q := by
  intro x1 x2 x3 h q e
  exact px_blk_ok (d := d + 5) (M := (pX_RX9, prog_11_method_15_code, 4, (some .int))) (C := wk_findShortest_orc) (code := wk_findShortest_code) (ld := [6]) (kl := [(6, fun ls st h => px_if (px_fit [35, 1, 1, 1] ls && px_fits [] st) (r6 (px_gi ls 1) (px_gi ls 2) (px_gi ls 3) h))]) (wk_findShortest_orc_ok) pX_ok_RX9 wk_findShortest_code_ok (px_k1 (px_ko (ts := [35, 1, 1, 1]) (ss := []) fun ls st h q e => hr6 _ _ _ _ _ e) px_k0) 39 51 _ _ h q e
set_option maxRecDepth 200000 in
theorem wk_findShortest_6_ok {d : Nat} : ∀ (n : Nat) (x1 : Int32) (x2 : Int32) (x3 : Int32) (h : pH) (q : Int32 × pH), wk_findShortest_6 n x1 x2 x3 h = some q → px_G (d + 5 + 1) (pX_RX9, prog_11_method_15_code, 4, (some .int)) 6 [some (.inr (.inl 25)), some (.inl x1), some (.inl x2), some (.inl x3)] [] h q := by
  intro n
  induction n with
  | zero =>
    intro x1 x2 x3 h q e
    cases e
  | succ n ih =>
    intro x1 x2 x3 h q e
    exact px_blk_ok (d := d + 5) (M := (pX_RX9, prog_11_method_15_code, 4, (some .int))) (C := wk_findShortest_orc) (code := wk_findShortest_code) (ld := [51, 57]) (kl := [(51, fun ls st h => px_if (px_fit [35, 1, 1, 1] ls && px_fits [] st) (wk_findShortest_51 (wk_findShortest_6 n) (px_gi ls 1) (px_gi ls 2) (px_gi ls 3) h)), (57, fun ls st h => px_if (px_fit [0, 1, 0, 0] ls && px_fits [] st) (wk_findShortest_57 (px_gi ls 1) h))]) (wk_findShortest_orc_ok) pX_ok_RX9 wk_findShortest_code_ok (px_k1 (px_ko (ts := [35, 1, 1, 1]) (ss := []) fun ls st h q e => wk_findShortest_51_ok ih _ _ _ _ _ e) (px_k1 (px_ko (ts := [0, 1, 0, 0]) (ss := []) fun ls st h q e => wk_findShortest_57_ok _ _ _ e) px_k0)) 39 6 _ _ h q e
set_option maxRecDepth 200000 in
theorem wk_findShortest_ok {d : Nat} {h : pH} {q : Int32 × pH} (e : wk_findShortest h = some q) : px_Con (d + 6) 113 [.inr (.inl 25)] h q :=
  px_con (X := pX_RX9) (b := prog_11_method_15_code) (nL := 4) (rt := (some .int)) rfl rfl (Nat.le_of_ble_eq_true rfl) rfl (px_blk_ok (d := d + 5) (M := (pX_RX9, prog_11_method_15_code, 4, (some .int))) (C := wk_findShortest_orc) (code := wk_findShortest_code) (ld := [6]) (kl := [(6, fun ls st h => px_if (px_fit [35, 1, 1, 1] ls && px_fits [] st) (wk_findShortest_6 px_F (px_gi ls 1) (px_gi ls 2) (px_gi ls 3) h))]) (wk_findShortest_orc_ok) pX_ok_RX9 wk_findShortest_code_ok (px_k1 (px_ko (ts := [35, 1, 1, 1]) (ss := []) fun ls st h q e => wk_findShortest_6_ok _ _ _ _ _ _ e) px_k0) 39 0 _ _ _ q e)
/-! WordsUnsaid$Walk.tellBest(LWordsUnsaid$Tale;I)V -/
noncomputable def wk_tellBest_2 : Nat → Int32 → Int32 → pH → pR
  | 0, _, _, _ => none
  | n + 1, x2, x3, h =>
    if x2 ≤ x3 then
      some (0, h)
    else
      px_bind (wu_at 28 x3 h) fun z1 h2 =>
      px_bind (tl_add z1 h2) fun _ h4 =>
      wk_tellBest_2 n x2 (x3 + px_c 1) h4
noncomputable def wk_tellBest (x2 : Int32) (h : pH) : pR :=
  wk_tellBest_2 px_F x2 (px_c 0) h
def wk_tellBest_code : pCode := [(0, .iconst 0, 1), (1, .istore_n 3, 1), (2, .iload_n 3, 1), (3, .iload_n 2, 1), (4, .if_icmp .ge (21), 3), (7, .aload_n 1, 1), (8, .aload_n 0, 1), (9, .getfield 26, 3), (12, .iload_n 3, 1), (13, .invokestatic 44, 3), (16, .invokevirtual 131, 3), (19, .iinc 3 (1), 3), (22, .goto (-20), 3), (25, .return_, 1)]
set_option maxRecDepth 200000 in
theorem wk_tellBest_code_ok : px_code prog_11_method_17_code wk_tellBest_code = true := by decide +kernel
noncomputable def wk_tellBest_orc : pC := px_orc [(158, fun a h => match a with
    | [.inr (.inl v0), .inl v1] => wu_at v0 v1 h
    | _ => none), (82, fun a h => match a with
    | [.inr (.inl 45), .inl v1] => tl_add v1 h
    | _ => none)]
theorem wk_tellBest_orc_ok {d : Nat} : px_Or (d + 2) (wk_tellBest_orc) := px_orc_ok (by
  refine px_o1 (fun a h q e => by
    dsimp only at e
    split at e
    · exact wu_at_ok (d := d + 1) e
    · cases e) ?_
  refine px_o1 (fun a h q e => by
    dsimp only at e
    split at e
    · exact tl_add_ok (d := d + 0) e
    · cases e) ?_
  exact px_o0)
set_option maxRecDepth 200000 in
theorem wk_tellBest_2_ok {d : Nat} : ∀ (n : Nat) (x2 : Int32) (x3 : Int32) (h : pH) (q : Int32 × pH), wk_tellBest_2 n x2 x3 h = some q → px_G (d + 2 + 1) (pX_RX9, prog_11_method_17_code, 4, none) 2 [some (.inr (.inl 25)), some (.inr (.inl 45)), some (.inl x2), some (.inl x3)] [] h q := by
  intro n
  induction n with
  | zero =>
    intro x2 x3 h q e
    cases e
  | succ n ih =>
    intro x2 x3 h q e
    exact px_blk_ok (d := d + 2) (M := (pX_RX9, prog_11_method_17_code, 4, none)) (C := wk_tellBest_orc) (code := wk_tellBest_code) (ld := [2]) (kl := [(2, fun ls st h => px_if (px_fit [35, 55, 1, 1] ls && px_fits [] st) (wk_tellBest_2 n (px_gi ls 2) (px_gi ls 3) h))]) (wk_tellBest_orc_ok) pX_ok_RX9 wk_tellBest_code_ok (px_k1 (px_ko (ts := [35, 55, 1, 1]) (ss := []) fun ls st h q e => ih _ _ _ _ e) px_k0) 19 2 _ _ h q e
set_option maxRecDepth 200000 in
theorem wk_tellBest_ok {d : Nat} {x2 : Int32} {h : pH} {q : Int32 × pH} (e : wk_tellBest x2 h = some q) : px_Con (d + 3) 115 [.inr (.inl 25), .inr (.inl 45), .inl x2] h q :=
  px_con (X := pX_RX9) (b := prog_11_method_17_code) (nL := 4) (rt := none) rfl rfl (Nat.le_of_ble_eq_true rfl) rfl (px_blk_ok (d := d + 2) (M := (pX_RX9, prog_11_method_17_code, 4, none)) (C := wk_tellBest_orc) (code := wk_tellBest_code) (ld := [2]) (kl := [(2, fun ls st h => px_if (px_fit [35, 55, 1, 1] ls && px_fits [] st) (wk_tellBest_2 px_F (px_gi ls 2) (px_gi ls 3) h))]) (wk_tellBest_orc_ok) pX_ok_RX9 wk_tellBest_code_ok (px_k1 (px_ko (ts := [35, 55, 1, 1]) (ss := []) fun ls st h q e => wk_tellBest_2_ok _ _ _ _ _ e) px_k0) 19 0 _ _ _ q e)
/-! WordsUnsaid$Walk.tellRow(LWordsUnsaid$Tale;)V -/
noncomputable def wk_tellRow_2 : Nat → Int32 → pH → pR
  | 0, _, _ => none
  | n + 1, x2, h =>
    if (h 25 9) ≤ x2 then
      some (0, h)
    else
      px_bind (wu_at 27 x2 h) fun z1 h2 =>
      px_bind (tl_add z1 h2) fun _ h4 =>
      wk_tellRow_2 n (x2 + px_c 1) h4
noncomputable def wk_tellRow (h : pH) : pR :=
  wk_tellRow_2 px_F (px_c 0) h
def wk_tellRow_code : pCode := [(0, .iconst 0, 1), (1, .istore_n 2, 1), (2, .iload_n 2, 1), (3, .aload_n 0, 1), (4, .getfield 66, 3), (7, .if_icmp .ge (21), 3), (10, .aload_n 1, 1), (11, .aload_n 0, 1), (12, .getfield 23, 3), (15, .iload_n 2, 1), (16, .invokestatic 44, 3), (19, .invokevirtual 131, 3), (22, .iinc 2 (1), 3), (25, .goto (-23), 3), (28, .return_, 1)]
set_option maxRecDepth 200000 in
theorem wk_tellRow_code_ok : px_code prog_11_method_18_code wk_tellRow_code = true := by decide +kernel
noncomputable def wk_tellRow_orc : pC := px_orc [(158, fun a h => match a with
    | [.inr (.inl v0), .inl v1] => wu_at v0 v1 h
    | _ => none), (82, fun a h => match a with
    | [.inr (.inl 45), .inl v1] => tl_add v1 h
    | _ => none)]
theorem wk_tellRow_orc_ok {d : Nat} : px_Or (d + 2) (wk_tellRow_orc) := px_orc_ok (by
  refine px_o1 (fun a h q e => by
    dsimp only at e
    split at e
    · exact wu_at_ok (d := d + 1) e
    · cases e) ?_
  refine px_o1 (fun a h q e => by
    dsimp only at e
    split at e
    · exact tl_add_ok (d := d + 0) e
    · cases e) ?_
  exact px_o0)
set_option maxRecDepth 200000 in
theorem wk_tellRow_2_ok {d : Nat} : ∀ (n : Nat) (x2 : Int32) (h : pH) (q : Int32 × pH), wk_tellRow_2 n x2 h = some q → px_G (d + 2 + 1) (pX_RX9, prog_11_method_18_code, 3, none) 2 [some (.inr (.inl 25)), some (.inr (.inl 45)), some (.inl x2)] [] h q := by
  intro n
  induction n with
  | zero =>
    intro x2 h q e
    cases e
  | succ n ih =>
    intro x2 h q e
    exact px_blk_ok (d := d + 2) (M := (pX_RX9, prog_11_method_18_code, 3, none)) (C := wk_tellRow_orc) (code := wk_tellRow_code) (ld := [2]) (kl := [(2, fun ls st h => px_if (px_fit [35, 55, 1] ls && px_fits [] st) (wk_tellRow_2 n (px_gi ls 2) h))]) (wk_tellRow_orc_ok) pX_ok_RX9 wk_tellRow_code_ok (px_k1 (px_ko (ts := [35, 55, 1]) (ss := []) fun ls st h q e => ih _ _ _ e) px_k0) 20 2 _ _ h q e
set_option maxRecDepth 200000 in
theorem wk_tellRow_ok {d : Nat} {h : pH} {q : Int32 × pH} (e : wk_tellRow h = some q) : px_Con (d + 3) 116 [.inr (.inl 25), .inr (.inl 45)] h q :=
  px_con (X := pX_RX9) (b := prog_11_method_18_code) (nL := 3) (rt := none) rfl rfl (Nat.le_of_ble_eq_true rfl) rfl (px_blk_ok (d := d + 2) (M := (pX_RX9, prog_11_method_18_code, 3, none)) (C := wk_tellRow_orc) (code := wk_tellRow_code) (ld := [2]) (kl := [(2, fun ls st h => px_if (px_fit [35, 55, 1] ls && px_fits [] st) (wk_tellRow_2 px_F (px_gi ls 2) h))]) (wk_tellRow_orc_ok) pX_ok_RX9 wk_tellRow_code_ok (px_k1 (px_ko (ts := [35, 55, 1]) (ss := []) fun ls st h q e => wk_tellRow_2_ok _ _ _ _ e) px_k0) 20 0 _ _ _ q e)
/-! WordsUnsaid$Walk.clearCounts()V -/
noncomputable def wk_clearCounts_2 : Nat → Int32 → pH → pR
  | 0, _, _ => none
  | n + 1, x1, h =>
    if (px_c 10) ≤ x1 then
      some (0, h)
    else
      px_bind (wu_put 32 x1 (px_c 0) h) fun _ h2 =>
      wk_clearCounts_2 n (x1 + px_c 1) h2
noncomputable def wk_clearCounts (h : pH) : pR :=
  wk_clearCounts_2 px_F (px_c 0) h
def wk_clearCounts_code : pCode := [(0, .iconst 0, 1), (1, .istore_n 1, 1), (2, .iload_n 1, 1), (3, .bipush (10), 2), (5, .if_icmp .ge (18), 3), (8, .aload_n 0, 1), (9, .getfield 38, 3), (12, .iload_n 1, 1), (13, .iconst 0, 1), (14, .invokestatic 48, 3), (17, .iinc 1 (1), 3), (20, .goto (-18), 3), (23, .return_, 1)]
set_option maxRecDepth 200000 in
theorem wk_clearCounts_code_ok : px_code prog_11_method_19_code wk_clearCounts_code = true := by decide +kernel
noncomputable def wk_clearCounts_orc : pC := px_orc [(159, fun a h => match a with
    | [.inr (.inl v0), .inl v1, .inl v2] => wu_put v0 v1 v2 h
    | _ => none)]
theorem wk_clearCounts_orc_ok {d : Nat} : px_Or (d + 1) (wk_clearCounts_orc) := px_orc_ok (by
  refine px_o1 (fun a h q e => by
    dsimp only at e
    split at e
    · exact wu_put_ok (d := d + 0) e
    · cases e) ?_
  exact px_o0)
set_option maxRecDepth 200000 in
theorem wk_clearCounts_2_ok {d : Nat} : ∀ (n : Nat) (x1 : Int32) (h : pH) (q : Int32 × pH), wk_clearCounts_2 n x1 h = some q → px_G (d + 1 + 1) (pX_RX9, prog_11_method_19_code, 2, none) 2 [some (.inr (.inl 25)), some (.inl x1)] [] h q := by
  intro n
  induction n with
  | zero =>
    intro x1 h q e
    cases e
  | succ n ih =>
    intro x1 h q e
    exact px_blk_ok (d := d + 1) (M := (pX_RX9, prog_11_method_19_code, 2, none)) (C := wk_clearCounts_orc) (code := wk_clearCounts_code) (ld := [2]) (kl := [(2, fun ls st h => px_if (px_fit [35, 1] ls && px_fits [] st) (wk_clearCounts_2 n (px_gi ls 1) h))]) (wk_clearCounts_orc_ok) pX_ok_RX9 wk_clearCounts_code_ok (px_k1 (px_ko (ts := [35, 1]) (ss := []) fun ls st h q e => ih _ _ _ e) px_k0) 18 2 _ _ h q e
set_option maxRecDepth 200000 in
theorem wk_clearCounts_ok {d : Nat} {h : pH} {q : Int32 × pH} (e : wk_clearCounts h = some q) : px_Con (d + 2) 117 [.inr (.inl 25)] h q :=
  px_con (X := pX_RX9) (b := prog_11_method_19_code) (nL := 2) (rt := none) rfl rfl (Nat.le_of_ble_eq_true rfl) rfl (px_blk_ok (d := d + 1) (M := (pX_RX9, prog_11_method_19_code, 2, none)) (C := wk_clearCounts_orc) (code := wk_clearCounts_code) (ld := [2]) (kl := [(2, fun ls st h => px_if (px_fit [35, 1] ls && px_fits [] st) (wk_clearCounts_2 px_F (px_gi ls 1) h))]) (wk_clearCounts_orc_ok) pX_ok_RX9 wk_clearCounts_code_ok (px_k1 (px_ko (ts := [35, 1]) (ss := []) fun ls st h q e => wk_clearCounts_2_ok _ _ _ _ e) px_k0) 18 0 _ _ _ q e)
/-! WordsUnsaid$Walk.countSaid()V -/
noncomputable def wk_countSaid (h : pH) : pR :=
  px_bind (wk_saidThing h) fun z1 h2 =>
  px_bind (wk_saidThing h2) fun z3 h4 =>
  px_bind (wu_at 32 z3 h4) fun z5 h6 =>
  px_bind (wu_put 32 z1 (z5 + (px_c 1)) h6) fun _ h8 =>
  some (0, h8)
def wk_countSaid_code : pCode := [(0, .aload_n 0, 1), (1, .getfield 38, 3), (4, .aload_n 0, 1), (5, .invokevirtual 111, 3), (8, .aload_n 0, 1), (9, .getfield 38, 3), (12, .aload_n 0, 1), (13, .invokevirtual 111, 3), (16, .invokestatic 44, 3), (19, .iconst 1, 1), (20, .iadd, 1), (21, .invokestatic 48, 3), (24, .return_, 1)]
set_option maxRecDepth 200000 in
theorem wk_countSaid_code_ok : px_code prog_11_method_20_code wk_countSaid_code = true := by decide +kernel
noncomputable def wk_countSaid_orc : pC := px_orc [(109, fun a h => match a with
    | [.inr (.inl 25)] => wk_saidThing h
    | _ => none), (158, fun a h => match a with
    | [.inr (.inl v0), .inl v1] => wu_at v0 v1 h
    | _ => none), (159, fun a h => match a with
    | [.inr (.inl v0), .inl v1, .inl v2] => wu_put v0 v1 v2 h
    | _ => none)]
theorem wk_countSaid_orc_ok {d : Nat} : px_Or (d + 2) (wk_countSaid_orc) := px_orc_ok (by
  refine px_o1 (fun a h q e => by
    dsimp only at e
    split at e
    · exact wk_saidThing_ok (d := d + 0) e
    · cases e) ?_
  refine px_o1 (fun a h q e => by
    dsimp only at e
    split at e
    · exact wu_at_ok (d := d + 1) e
    · cases e) ?_
  refine px_o1 (fun a h q e => by
    dsimp only at e
    split at e
    · exact wu_put_ok (d := d + 1) e
    · cases e) ?_
  exact px_o0)
set_option maxRecDepth 200000 in
theorem wk_countSaid_ok {d : Nat} {h : pH} {q : Int32 × pH} (e : wk_countSaid h = some q) : px_Con (d + 3) 118 [.inr (.inl 25)] h q :=
  px_con (X := pX_RX9) (b := prog_11_method_20_code) (nL := 1) (rt := none) rfl rfl (Nat.le_of_ble_eq_true rfl) rfl (px_blk_ok (d := d + 2) (M := (pX_RX9, prog_11_method_20_code, 1, none)) (C := wk_countSaid_orc) (code := wk_countSaid_code) (ld := []) (kl := []) (wk_countSaid_orc_ok) pX_ok_RX9 wk_countSaid_code_ok (px_k0) 18 0 _ _ _ q e)
/-! WordsUnsaid$Walk.tellCounts(LWordsUnsaid$Tale;)I -/
noncomputable def wk_tellCounts_43 (r8 : Int32 → Int32 → pH → pR) (x2 : Int32) (x3 : Int32) (h : pH) : pR :=
  r8 x2 (x3 + px_c 1) h
noncomputable def wk_tellCounts_8 : Nat → Int32 → Int32 → pH → pR
  | 0, _, _, _ => none
  | n + 1, x2, x3, h =>
    if (px_c 10) ≤ x3 then
      some (x2, h)
    else
      px_bind (wu_at 32 x3 h) fun z1 h2 =>
      if z1 ≤ 0 then
        wk_tellCounts_43 (wk_tellCounts_8 n) x2 x3 h2
      else
        let y2_3 := x2 ||| ((px_c 1) <<< (x3 &&& 31))
        px_bind (wu_at 32 x3 h2) fun z4 h5 =>
        px_bind (tl_add z4 h5) fun _ h7 =>
        wk_tellCounts_43 (wk_tellCounts_8 n) y2_3 x3 h7
noncomputable def wk_tellCounts (h : pH) : pR :=
  px_bind (tl_clear h) fun _ h2 =>
  wk_tellCounts_8 px_F (px_c 0) (px_c 0) h2
def wk_tellCounts_code : pCode := [(0, .aload_n 1, 1), (1, .invokevirtual 134, 3), (4, .iconst 0, 1), (5, .istore_n 2, 1), (6, .iconst 0, 1), (7, .istore_n 3, 1), (8, .iload_n 3, 1), (9, .bipush (10), 2), (11, .if_icmp .ge (38), 3), (14, .aload_n 0, 1), (15, .getfield 38, 3), (18, .iload_n 3, 1), (19, .invokestatic 44, 3), (22, .ifCond .le (21), 3), (25, .iload_n 2, 1), (26, .iconst 1, 1), (27, .iload_n 3, 1), (28, .ishl, 1), (29, .ior, 1), (30, .istore_n 2, 1), (31, .aload_n 1, 1), (32, .aload_n 0, 1), (33, .getfield 38, 3), (36, .iload_n 3, 1), (37, .invokestatic 44, 3), (40, .invokevirtual 131, 3), (43, .iinc 3 (1), 3), (46, .goto (-38), 3), (49, .iload_n 2, 1), (50, .ireturn, 1)]
set_option maxRecDepth 200000 in
theorem wk_tellCounts_code_ok : px_code prog_11_method_21_code wk_tellCounts_code = true := by decide +kernel
noncomputable def wk_tellCounts_orc : pC := px_orc [(158, fun a h => match a with
    | [.inr (.inl v0), .inl v1] => wu_at v0 v1 h
    | _ => none), (82, fun a h => match a with
    | [.inr (.inl 45), .inl v1] => tl_add v1 h
    | _ => none), (81, fun a h => match a with
    | [.inr (.inl 45)] => tl_clear h
    | _ => none)]
theorem wk_tellCounts_orc_ok {d : Nat} : px_Or (d + 2) (wk_tellCounts_orc) := px_orc_ok (by
  refine px_o1 (fun a h q e => by
    dsimp only at e
    split at e
    · exact wu_at_ok (d := d + 1) e
    · cases e) ?_
  refine px_o1 (fun a h q e => by
    dsimp only at e
    split at e
    · exact tl_add_ok (d := d + 0) e
    · cases e) ?_
  refine px_o1 (fun a h q e => by
    dsimp only at e
    split at e
    · exact tl_clear_ok (d := d + 1) e
    · cases e) ?_
  exact px_o0)
set_option maxRecDepth 200000 in
theorem wk_tellCounts_43_ok {d : Nat} {r8 : Int32 → Int32 → pH → pR} (hr8 : ∀ (x2 : Int32) (x3 : Int32) (h : pH) (q : Int32 × pH), r8 x2 x3 h = some q → px_G (d + 2 + 1) (pX_RX9, prog_11_method_21_code, 4, (some .int)) 8 [some (.inr (.inl 25)), some (.inr (.inl 45)), some (.inl x2), some (.inl x3)] [] h q) : ∀ (x2 : Int32) (x3 : Int32) (h : pH) (q : Int32 × pH), wk_tellCounts_43 r8 x2 x3 h = some q → px_G (d + 2 + 1) (pX_RX9, prog_11_method_21_code, 4, (some .int)) 43 [some (.inr (.inl 25)), some (.inr (.inl 45)), some (.inl x2), some (.inl x3)] [] h q := by
  intro x2 x3 h q e
  exact px_blk_ok (d := d + 2) (M := (pX_RX9, prog_11_method_21_code, 4, (some .int))) (C := wk_tellCounts_orc) (code := wk_tellCounts_code) (ld := [8]) (kl := [(8, fun ls st h => px_if (px_fit [35, 55, 1, 1] ls && px_fits [] st) (r8 (px_gi ls 2) (px_gi ls 3) h))]) (wk_tellCounts_orc_ok) pX_ok_RX9 wk_tellCounts_code_ok (px_k1 (px_ko (ts := [35, 55, 1, 1]) (ss := []) fun ls st h q e => hr8 _ _ _ _ e) px_k0) 35 43 _ _ h q e
set_option maxRecDepth 200000 in
theorem wk_tellCounts_8_ok {d : Nat} : ∀ (n : Nat) (x2 : Int32) (x3 : Int32) (h : pH) (q : Int32 × pH), wk_tellCounts_8 n x2 x3 h = some q → px_G (d + 2 + 1) (pX_RX9, prog_11_method_21_code, 4, (some .int)) 8 [some (.inr (.inl 25)), some (.inr (.inl 45)), some (.inl x2), some (.inl x3)] [] h q := by
  intro n
  induction n with
  | zero =>
    intro x2 x3 h q e
    cases e
  | succ n ih =>
    intro x2 x3 h q e
    exact px_blk_ok (d := d + 2) (M := (pX_RX9, prog_11_method_21_code, 4, (some .int))) (C := wk_tellCounts_orc) (code := wk_tellCounts_code) (ld := [43]) (kl := [(43, fun ls st h => px_if (px_fit [35, 55, 1, 1] ls && px_fits [] st) (wk_tellCounts_43 (wk_tellCounts_8 n) (px_gi ls 2) (px_gi ls 3) h))]) (wk_tellCounts_orc_ok) pX_ok_RX9 wk_tellCounts_code_ok (px_k1 (px_ko (ts := [35, 55, 1, 1]) (ss := []) fun ls st h q e => wk_tellCounts_43_ok ih _ _ _ _ e) px_k0) 35 8 _ _ h q e
set_option maxRecDepth 200000 in
theorem wk_tellCounts_ok {d : Nat} {h : pH} {q : Int32 × pH} (e : wk_tellCounts h = some q) : px_Con (d + 3) 119 [.inr (.inl 25), .inr (.inl 45)] h q :=
  px_con (X := pX_RX9) (b := prog_11_method_21_code) (nL := 4) (rt := (some .int)) rfl rfl (Nat.le_of_ble_eq_true rfl) rfl (px_blk_ok (d := d + 2) (M := (pX_RX9, prog_11_method_21_code, 4, (some .int))) (C := wk_tellCounts_orc) (code := wk_tellCounts_code) (ld := [8]) (kl := [(8, fun ls st h => px_if (px_fit [35, 55, 1, 1] ls && px_fits [] st) (wk_tellCounts_8 px_F (px_gi ls 2) (px_gi ls 3) h))]) (wk_tellCounts_orc_ok) pX_ok_RX9 wk_tellCounts_code_ok (px_k1 (px_ko (ts := [35, 55, 1, 1]) (ss := []) fun ls st h q e => wk_tellCounts_8_ok _ _ _ _ _ e) px_k0) 35 0 _ _ _ q e)
