/-! the reference: the rule -/
noncomputable def mo_held_77 (rc : pC) (s0 : Int32) (h : pH) : pR :=
  some (s0, h)
noncomputable def mo_held_53 (rc : pC) (s0 : Int32) (h : pH) : pR :=
  some (s0, h)
noncomputable def mo_held_29 (rc : pC) (s0 : Int32) (h : pH) : pR :=
  some (s0, h)
noncomputable def mo_held (rc : pC) (x1 : Int32) (h : pH) : pR :=
  px_bind (rc 201 [.inr (.inl 51), .inl x1] h) fun z1 h2 =>
  px_bind (mo_passes (px_c 60) h2) fun z3 h4 =>
  if z3 = 0 then
    px_bind (mo_passes (px_c 62) h4) fun z5 h6 =>
    if z5 = 0 then
      px_bind (mo_passes (px_c 61) h6) fun z7 h8 =>
      if z7 = 0 then
        some (z1, h8)
      else
        px_bind (rc 201 [.inr (.inl 51), .inl x1] h8) fun z9 h10 =>
        if z1 = z9 then
          mo_held_77 rc (px_c 1) h10
        else
          mo_held_77 rc (px_c 0) h10
    else
      px_bind (rc 201 [.inr (.inl 51), .inl x1] h6) fun z11 h12 =>
      if z1 ≤ z11 then
        mo_held_53 rc (px_c 0) h12
      else
        mo_held_53 rc (px_c 1) h12
  else
    px_bind (rc 201 [.inr (.inl 51), .inl x1] h4) fun z13 h14 =>
    if z13 ≤ z1 then
      mo_held_29 rc (px_c 0) h14
    else
      mo_held_29 rc (px_c 1) h14
noncomputable def mo_sum_82 (rc : pC) (x2 : Int32) (h : pH) : pR :=
  some (x2, h)
noncomputable def mo_sum_78 (rc : pC) (r6 : Int32 → Int32 → pH → pR) (x1 : Int32) (s0 : Int32) (h : pH) : pR :=
  r6 x1 s0 h
noncomputable def mo_sum_45 (rc : pC) (r6 : Int32 → Int32 → pH → pR) (x1 : Int32) (x2 : Int32) (s0 : Int32) (h : pH) : pR :=
  let h1 := px_w h 51 18 ((h 51 18) + (px_c 1))
  px_bind (rc 202 [.inr (.inl 51), .inl x1] h1) fun z2 h3 =>
  if s0 = 0 then
    mo_sum_78 rc r6 x1 (x2 - z2) h3
  else
    mo_sum_78 rc r6 x1 (x2 + z2) h3
noncomputable def mo_sum_31 (rc : pC) (r6 : Int32 → Int32 → pH → pR) (x1 : Int32) (x2 : Int32) (h : pH) : pR :=
  px_bind (mo_here h) fun z1 h2 =>
  if z1 = (px_c 43) then
    mo_sum_45 rc r6 x1 x2 (px_c 1) h2
  else
    mo_sum_45 rc r6 x1 x2 (px_c 0) h2
noncomputable def mo_sum_6 (rc : pC) : Nat → Int32 → Int32 → pH → pR
  | 0, _, _, _ => none
  | n + 1, x1, x2, h =>
    px_bind (mo_fine h) fun z1 h2 =>
    if z1 = 0 then
      mo_sum_82 rc x2 h2
    else
      px_bind (mo_here h2) fun z3 h4 =>
      if z3 = (px_c 43) then
        mo_sum_31 rc (mo_sum_6 rc n) x1 x2 h4
      else
        px_bind (mo_here h4) fun z5 h6 =>
        if z5 = (px_c 45) then
          mo_sum_31 rc (mo_sum_6 rc n) x1 x2 h6
        else
          mo_sum_82 rc x2 h6
noncomputable def mo_sum (rc : pC) (x1 : Int32) (h : pH) : pR :=
  px_bind (rc 202 [.inr (.inl 51), .inl x1] h) fun z1 h2 =>
  mo_sum_6 rc px_F x1 z1 h2
noncomputable def mo_product_91 (rc : pC) (x2 : Int32) (h : pH) : pR :=
  some (x2, h)
noncomputable def mo_product_87 (rc : pC) (r6 : Int32 → Int32 → pH → pR) (x1 : Int32) (s0 : Int32) (h : pH) : pR :=
  r6 x1 s0 h
noncomputable def mo_product_45 (rc : pC) (r6 : Int32 → Int32 → pH → pR) (x1 : Int32) (x2 : Int32) (s0 : Int32) (h : pH) : pR :=
  let h1 := px_w h 51 18 ((h 51 18) + (px_c 1))
  px_bind (rc 204 [.inr (.inl 51), .inl x1] h1) fun z2 h3 =>
  if s0 = 0 then
    if z2 = 0 then
      mo_product_87 rc r6 x1 (px_c 0) h3
    else
      if z2 = 0 then none else
      mo_product_87 rc r6 x1 (x2 / z2) h3
  else
    mo_product_87 rc r6 x1 (x2 * z2) h3
noncomputable def mo_product_31 (rc : pC) (r6 : Int32 → Int32 → pH → pR) (x1 : Int32) (x2 : Int32) (h : pH) : pR :=
  px_bind (mo_here h) fun z1 h2 =>
  if z1 = (px_c 42) then
    mo_product_45 rc r6 x1 x2 (px_c 1) h2
  else
    mo_product_45 rc r6 x1 x2 (px_c 0) h2
noncomputable def mo_product_6 (rc : pC) : Nat → Int32 → Int32 → pH → pR
  | 0, _, _, _ => none
  | n + 1, x1, x2, h =>
    px_bind (mo_fine h) fun z1 h2 =>
    if z1 = 0 then
      mo_product_91 rc x2 h2
    else
      px_bind (mo_here h2) fun z3 h4 =>
      if z3 = (px_c 42) then
        mo_product_31 rc (mo_product_6 rc n) x1 x2 h4
      else
        px_bind (mo_here h4) fun z5 h6 =>
        if z5 = (px_c 47) then
          mo_product_31 rc (mo_product_6 rc n) x1 x2 h6
        else
          mo_product_91 rc x2 h6
noncomputable def mo_product (rc : pC) (x1 : Int32) (h : pH) : pR :=
  px_bind (rc 204 [.inr (.inl 51), .inl x1] h) fun z1 h2 =>
  mo_product_6 rc px_F x1 z1 h2
noncomputable def mo_factor_132 (rc : pC) (s0 : Int32) (h : pH) : pR :=
  some (s0, h)
noncomputable def mo_factor_67 (rc : pC) (x2 : Int32) (h : pH) : pR :=
  px_bind (mo_in x2 (px_c 48) (px_c 57) h) fun z1 h2 =>
  if z1 = 0 then
    px_bind (mo_letterOf x2 h2) fun z3 h4 =>
    if z3 = (px_c (-1)) then
      px_bind (mo_fault (h4 51 18) h4) fun _ h6 =>
      some (px_c 0, h6)
    else
      let h7 := px_w h4 51 18 ((h4 51 18) + (px_c 1))
      if (h7 51 27) = 0 then
        mo_factor_132 rc (px_c 0) h7
      else
        px_bind (mo_letterOf x2 h7) fun z8 h9 =>
        px_if (px_ok 0 64 z8) <|
        mo_factor_132 rc (h9 64 z8.toNatClampNeg) h9
  else
    px_bind (mo_number (px_c 3) h2) fun z10 h11 =>
    some (z10, h11)
noncomputable def mo_factor (rc : pC) (x1 : Int32) (h : pH) : pR :=
  px_bind (mo_passes (px_c 45) h) fun z1 h2 =>
  if z1 = 0 then
    px_bind (mo_fine h2) fun z3 h4 =>
    if z3 = 0 then
      some (px_c 0, h4)
    else
      px_bind (mo_here h4) fun z5 h6 =>
      if z5 = (px_c 40) then
        if (px_c 4) ≤ x1 then
          mo_factor_67 rc z5 h6
        else
          let h7 := px_w h6 51 18 ((h6 51 18) + (px_c 1))
          px_bind (rc 200 [.inr (.inl 51), .inl (x1 + (px_c 1))] h7) fun z8 h9 =>
          px_bind (mo_need (px_c 41) h9) fun _ h11 =>
          some (z8, h11)
      else
        mo_factor_67 rc z5 h6
  else
    px_bind (rc 204 [.inr (.inl 51), .inl x1] h2) fun z12 h13 =>
    some (-z12, h13)
def mo_held_code : pCode := [(0, .aload_n 0, 1), (1, .iload_n 1, 1), (2, .invokevirtual 200, 3), (5, .istore_n 2, 1), (6, .aload_n 0, 1), (7, .bipush (60), 2), (9, .invokevirtual 155, 3), (12, .ifCond .eq (18), 3), (15, .iload_n 2, 1), (16, .aload_n 0, 1), (17, .iload_n 1, 1), (18, .invokevirtual 200, 3), (21, .if_icmp .ge (7), 3), (24, .iconst 1, 1), (25, .goto (4), 3), (28, .iconst 0, 1), (29, .ireturn, 1), (30, .aload_n 0, 1), (31, .bipush (62), 2), (33, .invokevirtual 155, 3), (36, .ifCond .eq (18), 3), (39, .iload_n 2, 1), (40, .aload_n 0, 1), (41, .iload_n 1, 1), (42, .invokevirtual 200, 3), (45, .if_icmp .le (7), 3), (48, .iconst 1, 1), (49, .goto (4), 3), (52, .iconst 0, 1), (53, .ireturn, 1), (54, .aload_n 0, 1), (55, .bipush (61), 2), (57, .invokevirtual 155, 3), (60, .ifCond .eq (18), 3), (63, .iload_n 2, 1), (64, .aload_n 0, 1), (65, .iload_n 1, 1), (66, .invokevirtual 200, 3), (69, .if_icmp .ne (7), 3), (72, .iconst 1, 1), (73, .goto (4), 3), (76, .iconst 0, 1), (77, .ireturn, 1), (78, .iload_n 2, 1), (79, .ireturn, 1)]
set_option maxRecDepth 200000 in
theorem mo_held_code_ok : px_code prog_13_method_28_code mo_held_code = true := by decide +kernel
noncomputable def mo_held_orc (rc : pC) : pC := fun id a h => match px_mem [200, 201, 202, 204] id with
  | true => rc id a h
  | false => px_orc [(191, fun a h => match a with
    | [.inr (.inl 51), .inl v1] => mo_passes v1 h
    | _ => none)] id a h
theorem mo_held_orc_ok {d : Nat} {rc : pC} (hrc : px_Or (d + 4) rc) : px_Or (d + 4) (mo_held_orc rc) := by
  intro id a h q e
  unfold mo_held_orc at e
  split at e
  · exact hrc id a h q e
  · exact (px_orc_ok (by
      refine px_o1 (fun a h q e => by
        dsimp only at e
        split at e
        · exact mo_passes_ok (d := d + 2) e
        · cases e) ?_
      exact px_o0) : px_Or _ (px_orc [(191, fun a h => match a with
    | [.inr (.inl 51), .inl v1] => mo_passes v1 h
    | _ => none)])) id a h q e
set_option maxRecDepth 200000 in
theorem mo_held_77_ok {d : Nat} {rc : pC} (hrc : px_Or (d + 4) rc) : ∀ (s0 : Int32) (h : pH) (q : Int32 × pH), mo_held_77 rc s0 h = some q → px_G (d + 4 + 1) (pX_RX11, prog_13_method_28_code, 3, (some .int)) 77 [none, none, none] [.inl s0] h q := by
  intro s0 h q e
  exact px_blk_ok (d := d + 4) (M := (pX_RX11, prog_13_method_28_code, 3, (some .int))) (C := mo_held_orc rc) (code := mo_held_code) (ld := []) (kl := []) (mo_held_orc_ok hrc) pX_ok_RX11 mo_held_code_ok (px_k0) 50 77 _ _ h q e
set_option maxRecDepth 200000 in
theorem mo_held_53_ok {d : Nat} {rc : pC} (hrc : px_Or (d + 4) rc) : ∀ (s0 : Int32) (h : pH) (q : Int32 × pH), mo_held_53 rc s0 h = some q → px_G (d + 4 + 1) (pX_RX11, prog_13_method_28_code, 3, (some .int)) 53 [none, none, none] [.inl s0] h q := by
  intro s0 h q e
  exact px_blk_ok (d := d + 4) (M := (pX_RX11, prog_13_method_28_code, 3, (some .int))) (C := mo_held_orc rc) (code := mo_held_code) (ld := []) (kl := []) (mo_held_orc_ok hrc) pX_ok_RX11 mo_held_code_ok (px_k0) 50 53 _ _ h q e
set_option maxRecDepth 200000 in
theorem mo_held_29_ok {d : Nat} {rc : pC} (hrc : px_Or (d + 4) rc) : ∀ (s0 : Int32) (h : pH) (q : Int32 × pH), mo_held_29 rc s0 h = some q → px_G (d + 4 + 1) (pX_RX11, prog_13_method_28_code, 3, (some .int)) 29 [none, none, none] [.inl s0] h q := by
  intro s0 h q e
  exact px_blk_ok (d := d + 4) (M := (pX_RX11, prog_13_method_28_code, 3, (some .int))) (C := mo_held_orc rc) (code := mo_held_code) (ld := []) (kl := []) (mo_held_orc_ok hrc) pX_ok_RX11 mo_held_code_ok (px_k0) 50 29 _ _ h q e
set_option maxRecDepth 200000 in
theorem mo_held_ok {d : Nat} {rc : pC} (hrc : px_Or (d + 4) rc) {x1 : Int32} {h : pH} {q : Int32 × pH} (e : mo_held rc x1 h = some q) : px_Con (d + 5) 200 [.inr (.inl 51), .inl x1] h q :=
  px_con (X := pX_RX11) (b := prog_13_method_28_code) (nL := 3) (rt := (some .int)) rfl rfl (Nat.le_of_ble_eq_true rfl) rfl (px_blk_ok (d := d + 4) (M := (pX_RX11, prog_13_method_28_code, 3, (some .int))) (C := mo_held_orc rc) (code := mo_held_code) (ld := [29, 53, 77]) (kl := [(29, fun ls st h => px_if (px_fit [0, 0, 0] ls && px_fits [1] st) (mo_held_29 rc (px_si st 0) h)), (53, fun ls st h => px_if (px_fit [0, 0, 0] ls && px_fits [1] st) (mo_held_53 rc (px_si st 0) h)), (77, fun ls st h => px_if (px_fit [0, 0, 0] ls && px_fits [1] st) (mo_held_77 rc (px_si st 0) h))]) (mo_held_orc_ok hrc) pX_ok_RX11 mo_held_code_ok (px_k1 (px_ko (ts := [0, 0, 0]) (ss := [1]) fun ls st h q e => mo_held_29_ok hrc _ _ _ e) (px_k1 (px_ko (ts := [0, 0, 0]) (ss := [1]) fun ls st h q e => mo_held_53_ok hrc _ _ _ e) (px_k1 (px_ko (ts := [0, 0, 0]) (ss := [1]) fun ls st h q e => mo_held_77_ok hrc _ _ _ e) px_k0))) 50 0 _ _ _ q e)
def mo_sum_code : pCode := [(0, .aload_n 0, 1), (1, .iload_n 1, 1), (2, .invokevirtual 203, 3), (5, .istore_n 2, 1), (6, .aload_n 0, 1), (7, .invokevirtual 147, 3), (10, .ifCond .eq (72), 3), (13, .aload_n 0, 1), (14, .invokevirtual 151, 3), (17, .bipush (43), 2), (19, .if_icmp .eq (12), 3), (22, .aload_n 0, 1), (23, .invokevirtual 151, 3), (26, .bipush (45), 2), (28, .if_icmp .ne (54), 3), (31, .aload_n 0, 1), (32, .invokevirtual 151, 3), (35, .bipush (43), 2), (37, .if_icmp .ne (7), 3), (40, .iconst 1, 1), (41, .goto (4), 3), (44, .iconst 0, 1), (45, .istore_n 3, 1), (46, .aload_n 0, 1), (47, .dup, 1), (48, .getfield 141, 3), (51, .iconst 1, 1), (52, .iadd, 1), (53, .putfield 141, 3), (56, .aload_n 0, 1), (57, .iload_n 1, 1), (58, .invokevirtual 203, 3), (61, .istore 4, 2), (63, .iload_n 3, 1), (64, .ifCond .eq (10), 3), (67, .iload_n 2, 1), (68, .iload 4, 2), (70, .iadd, 1), (71, .goto (7), 3), (74, .iload_n 2, 1), (75, .iload 4, 2), (77, .isub, 1), (78, .istore_n 2, 1), (79, .goto (-73), 3), (82, .iload_n 2, 1), (83, .ireturn, 1)]
set_option maxRecDepth 200000 in
theorem mo_sum_code_ok : px_code prog_13_method_29_code mo_sum_code = true := by decide +kernel
noncomputable def mo_sum_orc (rc : pC) : pC := fun id a h => match px_mem [200, 201, 202, 204] id with
  | true => rc id a h
  | false => px_orc [(188, fun a h => match a with
    | [.inr (.inl 51)] => mo_here h
    | _ => none), (189, fun a h => match a with
    | [.inr (.inl 51)] => mo_fine h
    | _ => none)] id a h
theorem mo_sum_orc_ok {d : Nat} {rc : pC} (hrc : px_Or (d + 4) rc) : px_Or (d + 4) (mo_sum_orc rc) := by
  intro id a h q e
  unfold mo_sum_orc at e
  split at e
  · exact hrc id a h q e
  · exact (px_orc_ok (by
      refine px_o1 (fun a h q e => by
        dsimp only at e
        split at e
        · exact mo_here_ok (d := d + 3) e
        · cases e) ?_
      refine px_o1 (fun a h q e => by
        dsimp only at e
        split at e
        · exact mo_fine_ok (d := d + 3) e
        · cases e) ?_
      exact px_o0) : px_Or _ (px_orc [(188, fun a h => match a with
    | [.inr (.inl 51)] => mo_here h
    | _ => none), (189, fun a h => match a with
    | [.inr (.inl 51)] => mo_fine h
    | _ => none)])) id a h q e
set_option maxRecDepth 200000 in
theorem mo_sum_82_ok {d : Nat} {rc : pC} (hrc : px_Or (d + 4) rc) : ∀ (x2 : Int32) (h : pH) (q : Int32 × pH), mo_sum_82 rc x2 h = some q → px_G (d + 4 + 1) (pX_RX11, prog_13_method_29_code, 5, (some .int)) 82 [none, none, some (.inl x2), none, none] [] h q := by
  intro x2 h q e
  exact px_blk_ok (d := d + 4) (M := (pX_RX11, prog_13_method_29_code, 5, (some .int))) (C := mo_sum_orc rc) (code := mo_sum_code) (ld := []) (kl := []) (mo_sum_orc_ok hrc) pX_ok_RX11 mo_sum_code_ok (px_k0) 51 82 _ _ h q e
set_option maxRecDepth 200000 in
theorem mo_sum_78_ok {d : Nat} {rc : pC} (hrc : px_Or (d + 4) rc) {r6 : Int32 → Int32 → pH → pR} (hr6 : ∀ (x1 : Int32) (x2 : Int32) (h : pH) (q : Int32 × pH), r6 x1 x2 h = some q → px_G (d + 4 + 1) (pX_RX11, prog_13_method_29_code, 5, (some .int)) 6 [some (.inr (.inl 51)), some (.inl x1), some (.inl x2), none, none] [] h q) : ∀ (x1 : Int32) (s0 : Int32) (h : pH) (q : Int32 × pH), mo_sum_78 rc r6 x1 s0 h = some q → px_G (d + 4 + 1) (pX_RX11, prog_13_method_29_code, 5, (some .int)) 78 [some (.inr (.inl 51)), some (.inl x1), none, none, none] [.inl s0] h q := by
  intro x1 s0 h q e
  exact px_blk_ok (d := d + 4) (M := (pX_RX11, prog_13_method_29_code, 5, (some .int))) (C := mo_sum_orc rc) (code := mo_sum_code) (ld := [6]) (kl := [(6, fun ls st h => px_if (px_fit [61, 1, 1, 0, 0] ls && px_fits [] st) (r6 (px_gi ls 1) (px_gi ls 2) h))]) (mo_sum_orc_ok hrc) pX_ok_RX11 mo_sum_code_ok (px_k1 (px_ko (ts := [61, 1, 1, 0, 0]) (ss := []) fun ls st h q e => hr6 _ _ _ _ e) px_k0) 51 78 _ _ h q e
set_option maxRecDepth 200000 in
theorem mo_sum_45_ok {d : Nat} {rc : pC} (hrc : px_Or (d + 4) rc) {r6 : Int32 → Int32 → pH → pR} (hr6 : ∀ (x1 : Int32) (x2 : Int32) (h : pH) (q : Int32 × pH), r6 x1 x2 h = some q → px_G (d + 4 + 1) (pX_RX11, prog_13_method_29_code, 5, (some .int)) 6 [some (.inr (.inl 51)), some (.inl x1), some (.inl x2), none, none] [] h q) : ∀ (x1 : Int32) (x2 : Int32) (s0 : Int32) (h : pH) (q : Int32 × pH), mo_sum_45 rc r6 x1 x2 s0 h = some q → px_G (d + 4 + 1) (pX_RX11, prog_13_method_29_code, 5, (some .int)) 45 [some (.inr (.inl 51)), some (.inl x1), some (.inl x2), none, none] [.inl s0] h q := by
  intro x1 x2 s0 h q e
  exact px_blk_ok (d := d + 4) (M := (pX_RX11, prog_13_method_29_code, 5, (some .int))) (C := mo_sum_orc rc) (code := mo_sum_code) (ld := [78]) (kl := [(78, fun ls st h => px_if (px_fit [61, 1, 0, 0, 0] ls && px_fits [1] st) (mo_sum_78 rc r6 (px_gi ls 1) (px_si st 0) h))]) (mo_sum_orc_ok hrc) pX_ok_RX11 mo_sum_code_ok (px_k1 (px_ko (ts := [61, 1, 0, 0, 0]) (ss := [1]) fun ls st h q e => mo_sum_78_ok hrc hr6 _ _ _ _ e) px_k0) 51 45 _ _ h q e
set_option maxRecDepth 200000 in
theorem mo_sum_31_ok {d : Nat} {rc : pC} (hrc : px_Or (d + 4) rc) {r6 : Int32 → Int32 → pH → pR} (hr6 : ∀ (x1 : Int32) (x2 : Int32) (h : pH) (q : Int32 × pH), r6 x1 x2 h = some q → px_G (d + 4 + 1) (pX_RX11, prog_13_method_29_code, 5, (some .int)) 6 [some (.inr (.inl 51)), some (.inl x1), some (.inl x2), none, none] [] h q) : ∀ (x1 : Int32) (x2 : Int32) (h : pH) (q : Int32 × pH), mo_sum_31 rc r6 x1 x2 h = some q → px_G (d + 4 + 1) (pX_RX11, prog_13_method_29_code, 5, (some .int)) 31 [some (.inr (.inl 51)), some (.inl x1), some (.inl x2), none, none] [] h q := by
  intro x1 x2 h q e
  exact px_blk_ok (d := d + 4) (M := (pX_RX11, prog_13_method_29_code, 5, (some .int))) (C := mo_sum_orc rc) (code := mo_sum_code) (ld := [45]) (kl := [(45, fun ls st h => px_if (px_fit [61, 1, 1, 0, 0] ls && px_fits [1] st) (mo_sum_45 rc r6 (px_gi ls 1) (px_gi ls 2) (px_si st 0) h))]) (mo_sum_orc_ok hrc) pX_ok_RX11 mo_sum_code_ok (px_k1 (px_ko (ts := [61, 1, 1, 0, 0]) (ss := [1]) fun ls st h q e => mo_sum_45_ok hrc hr6 _ _ _ _ _ e) px_k0) 51 31 _ _ h q e
set_option maxRecDepth 200000 in
theorem mo_sum_6_ok {d : Nat} {rc : pC} (hrc : px_Or (d + 4) rc) : ∀ (n : Nat) (x1 : Int32) (x2 : Int32) (h : pH) (q : Int32 × pH), mo_sum_6 rc n x1 x2 h = some q → px_G (d + 4 + 1) (pX_RX11, prog_13_method_29_code, 5, (some .int)) 6 [some (.inr (.inl 51)), some (.inl x1), some (.inl x2), none, none] [] h q := by
  intro n
  induction n with
  | zero =>
    intro x1 x2 h q e
    cases e
  | succ n ih =>
    intro x1 x2 h q e
    exact px_blk_ok (d := d + 4) (M := (pX_RX11, prog_13_method_29_code, 5, (some .int))) (C := mo_sum_orc rc) (code := mo_sum_code) (ld := [31, 82]) (kl := [(31, fun ls st h => px_if (px_fit [61, 1, 1, 0, 0] ls && px_fits [] st) (mo_sum_31 rc (mo_sum_6 rc n) (px_gi ls 1) (px_gi ls 2) h)), (82, fun ls st h => px_if (px_fit [0, 0, 1, 0, 0] ls && px_fits [] st) (mo_sum_82 rc (px_gi ls 2) h))]) (mo_sum_orc_ok hrc) pX_ok_RX11 mo_sum_code_ok (px_k1 (px_ko (ts := [61, 1, 1, 0, 0]) (ss := []) fun ls st h q e => mo_sum_31_ok hrc ih _ _ _ _ e) (px_k1 (px_ko (ts := [0, 0, 1, 0, 0]) (ss := []) fun ls st h q e => mo_sum_82_ok hrc _ _ _ e) px_k0)) 51 6 _ _ h q e
set_option maxRecDepth 200000 in
theorem mo_sum_ok {d : Nat} {rc : pC} (hrc : px_Or (d + 4) rc) {x1 : Int32} {h : pH} {q : Int32 × pH} (e : mo_sum rc x1 h = some q) : px_Con (d + 5) 201 [.inr (.inl 51), .inl x1] h q :=
  px_con (X := pX_RX11) (b := prog_13_method_29_code) (nL := 5) (rt := (some .int)) rfl rfl (Nat.le_of_ble_eq_true rfl) rfl (px_blk_ok (d := d + 4) (M := (pX_RX11, prog_13_method_29_code, 5, (some .int))) (C := mo_sum_orc rc) (code := mo_sum_code) (ld := [6]) (kl := [(6, fun ls st h => px_if (px_fit [61, 1, 1, 0, 0] ls && px_fits [] st) (mo_sum_6 rc px_F (px_gi ls 1) (px_gi ls 2) h))]) (mo_sum_orc_ok hrc) pX_ok_RX11 mo_sum_code_ok (px_k1 (px_ko (ts := [61, 1, 1, 0, 0]) (ss := []) fun ls st h q e => mo_sum_6_ok hrc _ _ _ _ _ e) px_k0) 51 0 _ _ _ q e)
def mo_product_code : pCode := [(0, .aload_n 0, 1), (1, .iload_n 1, 1), (2, .invokevirtual 206, 3), (5, .istore_n 2, 1), (6, .aload_n 0, 1), (7, .invokevirtual 147, 3), (10, .ifCond .eq (81), 3), (13, .aload_n 0, 1), (14, .invokevirtual 151, 3), (17, .bipush (42), 2), (19, .if_icmp .eq (12), 3), (22, .aload_n 0, 1), (23, .invokevirtual 151, 3), (26, .bipush (47), 2), (28, .if_icmp .ne (63), 3), (31, .aload_n 0, 1), (32, .invokevirtual 151, 3), (35, .bipush (42), 2), (37, .if_icmp .ne (7), 3), (40, .iconst 1, 1), (41, .goto (4), 3), (44, .iconst 0, 1), (45, .istore_n 3, 1), (46, .aload_n 0, 1), (47, .dup, 1), (48, .getfield 141, 3), (51, .iconst 1, 1), (52, .iadd, 1), (53, .putfield 141, 3), (56, .aload_n 0, 1), (57, .iload_n 1, 1), (58, .invokevirtual 206, 3), (61, .istore 4, 2), (63, .iload_n 3, 1), (64, .ifCond .eq (10), 3), (67, .iload_n 2, 1), (68, .iload 4, 2), (70, .imul, 1), (71, .goto (16), 3), (74, .iload 4, 2), (76, .ifCond .ne (7), 3), (79, .iconst 0, 1), (80, .goto (7), 3), (83, .iload_n 2, 1), (84, .iload 4, 2), (86, .idiv, 1), (87, .istore_n 2, 1), (88, .goto (-82), 3), (91, .iload_n 2, 1), (92, .ireturn, 1)]
set_option maxRecDepth 200000 in
theorem mo_product_code_ok : px_code prog_13_method_30_code mo_product_code = true := by decide +kernel
noncomputable def mo_product_orc (rc : pC) : pC := fun id a h => match px_mem [200, 201, 202, 204] id with
  | true => rc id a h
  | false => px_orc [(188, fun a h => match a with
    | [.inr (.inl 51)] => mo_here h
    | _ => none), (189, fun a h => match a with
    | [.inr (.inl 51)] => mo_fine h
    | _ => none)] id a h
theorem mo_product_orc_ok {d : Nat} {rc : pC} (hrc : px_Or (d + 4) rc) : px_Or (d + 4) (mo_product_orc rc) := by
  intro id a h q e
  unfold mo_product_orc at e
  split at e
  · exact hrc id a h q e
  · exact (px_orc_ok (by
      refine px_o1 (fun a h q e => by
        dsimp only at e
        split at e
        · exact mo_here_ok (d := d + 3) e
        · cases e) ?_
      refine px_o1 (fun a h q e => by
        dsimp only at e
        split at e
        · exact mo_fine_ok (d := d + 3) e
        · cases e) ?_
      exact px_o0) : px_Or _ (px_orc [(188, fun a h => match a with
    | [.inr (.inl 51)] => mo_here h
    | _ => none), (189, fun a h => match a with
    | [.inr (.inl 51)] => mo_fine h
    | _ => none)])) id a h q e
set_option maxRecDepth 200000 in
theorem mo_product_91_ok {d : Nat} {rc : pC} (hrc : px_Or (d + 4) rc) : ∀ (x2 : Int32) (h : pH) (q : Int32 × pH), mo_product_91 rc x2 h = some q → px_G (d + 4 + 1) (pX_RX11, prog_13_method_30_code, 5, (some .int)) 91 [none, none, some (.inl x2), none, none] [] h q := by
  intro x2 h q e
  exact px_blk_ok (d := d + 4) (M := (pX_RX11, prog_13_method_30_code, 5, (some .int))) (C := mo_product_orc rc) (code := mo_product_code) (ld := []) (kl := []) (mo_product_orc_ok hrc) pX_ok_RX11 mo_product_code_ok (px_k0) 55 91 _ _ h q e
set_option maxRecDepth 200000 in
theorem mo_product_87_ok {d : Nat} {rc : pC} (hrc : px_Or (d + 4) rc) {r6 : Int32 → Int32 → pH → pR} (hr6 : ∀ (x1 : Int32) (x2 : Int32) (h : pH) (q : Int32 × pH), r6 x1 x2 h = some q → px_G (d + 4 + 1) (pX_RX11, prog_13_method_30_code, 5, (some .int)) 6 [some (.inr (.inl 51)), some (.inl x1), some (.inl x2), none, none] [] h q) : ∀ (x1 : Int32) (s0 : Int32) (h : pH) (q : Int32 × pH), mo_product_87 rc r6 x1 s0 h = some q → px_G (d + 4 + 1) (pX_RX11, prog_13_method_30_code, 5, (some .int)) 87 [some (.inr (.inl 51)), some (.inl x1), none, none, none] [.inl s0] h q := by
  intro x1 s0 h q e
  exact px_blk_ok (d := d + 4) (M := (pX_RX11, prog_13_method_30_code, 5, (some .int))) (C := mo_product_orc rc) (code := mo_product_code) (ld := [6]) (kl := [(6, fun ls st h => px_if (px_fit [61, 1, 1, 0, 0] ls && px_fits [] st) (r6 (px_gi ls 1) (px_gi ls 2) h))]) (mo_product_orc_ok hrc) pX_ok_RX11 mo_product_code_ok (px_k1 (px_ko (ts := [61, 1, 1, 0, 0]) (ss := []) fun ls st h q e => hr6 _ _ _ _ e) px_k0) 55 87 _ _ h q e
set_option maxRecDepth 200000 in
theorem mo_product_45_ok {d : Nat} {rc : pC} (hrc : px_Or (d + 4) rc) {r6 : Int32 → Int32 → pH → pR} (hr6 : ∀ (x1 : Int32) (x2 : Int32) (h : pH) (q : Int32 × pH), r6 x1 x2 h = some q → px_G (d + 4 + 1) (pX_RX11, prog_13_method_30_code, 5, (some .int)) 6 [some (.inr (.inl 51)), some (.inl x1), some (.inl x2), none, none] [] h q) : ∀ (x1 : Int32) (x2 : Int32) (s0 : Int32) (h : pH) (q : Int32 × pH), mo_product_45 rc r6 x1 x2 s0 h = some q → px_G (d + 4 + 1) (pX_RX11, prog_13_method_30_code, 5, (some .int)) 45 [some (.inr (.inl 51)), some (.inl x1), some (.inl x2), none, none] [.inl s0] h q := by
  intro x1 x2 s0 h q e
  exact px_blk_ok (d := d + 4) (M := (pX_RX11, prog_13_method_30_code, 5, (some .int))) (C := mo_product_orc rc) (code := mo_product_code) (ld := [87]) (kl := [(87, fun ls st h => px_if (px_fit [61, 1, 0, 0, 0] ls && px_fits [1] st) (mo_product_87 rc r6 (px_gi ls 1) (px_si st 0) h))]) (mo_product_orc_ok hrc) pX_ok_RX11 mo_product_code_ok (px_k1 (px_ko (ts := [61, 1, 0, 0, 0]) (ss := [1]) fun ls st h q e => mo_product_87_ok hrc hr6 _ _ _ _ e) px_k0) 55 45 _ _ h q e
set_option maxRecDepth 200000 in
theorem mo_product_31_ok {d : Nat} {rc : pC} (hrc : px_Or (d + 4) rc) {r6 : Int32 → Int32 → pH → pR} (hr6 : ∀ (x1 : Int32) (x2 : Int32) (h : pH) (q : Int32 × pH), r6 x1 x2 h = some q → px_G (d + 4 + 1) (pX_RX11, prog_13_method_30_code, 5, (some .int)) 6 [some (.inr (.inl 51)), some (.inl x1), some (.inl x2), none, none] [] h q) : ∀ (x1 : Int32) (x2 : Int32) (h : pH) (q : Int32 × pH), mo_product_31 rc r6 x1 x2 h = some q → px_G (d + 4 + 1) (pX_RX11, prog_13_method_30_code, 5, (some .int)) 31 [some (.inr (.inl 51)), some (.inl x1), some (.inl x2), none, none] [] h q := by
  intro x1 x2 h q e
  exact px_blk_ok (d := d + 4) (M := (pX_RX11, prog_13_method_30_code, 5, (some .int))) (C := mo_product_orc rc) (code := mo_product_code) (ld := [45]) (kl := [(45, fun ls st h => px_if (px_fit [61, 1, 1, 0, 0] ls && px_fits [1] st) (mo_product_45 rc r6 (px_gi ls 1) (px_gi ls 2) (px_si st 0) h))]) (mo_product_orc_ok hrc) pX_ok_RX11 mo_product_code_ok (px_k1 (px_ko (ts := [61, 1, 1, 0, 0]) (ss := [1]) fun ls st h q e => mo_product_45_ok hrc hr6 _ _ _ _ _ e) px_k0) 55 31 _ _ h q e
set_option maxRecDepth 200000 in
theorem mo_product_6_ok {d : Nat} {rc : pC} (hrc : px_Or (d + 4) rc) : ∀ (n : Nat) (x1 : Int32) (x2 : Int32) (h : pH) (q : Int32 × pH), mo_product_6 rc n x1 x2 h = some q → px_G (d + 4 + 1) (pX_RX11, prog_13_method_30_code, 5, (some .int)) 6 [some (.inr (.inl 51)), some (.inl x1), some (.inl x2), none, none] [] h q := by
  intro n
  induction n with
  | zero =>
    intro x1 x2 h q e
    cases e
  | succ n ih =>
    intro x1 x2 h q e
    exact px_blk_ok (d := d + 4) (M := (pX_RX11, prog_13_method_30_code, 5, (some .int))) (C := mo_product_orc rc) (code := mo_product_code) (ld := [31, 91]) (kl := [(31, fun ls st h => px_if (px_fit [61, 1, 1, 0, 0] ls && px_fits [] st) (mo_product_31 rc (mo_product_6 rc n) (px_gi ls 1) (px_gi ls 2) h)), (91, fun ls st h => px_if (px_fit [0, 0, 1, 0, 0] ls && px_fits [] st) (mo_product_91 rc (px_gi ls 2) h))]) (mo_product_orc_ok hrc) pX_ok_RX11 mo_product_code_ok (px_k1 (px_ko (ts := [61, 1, 1, 0, 0]) (ss := []) fun ls st h q e => mo_product_31_ok hrc ih _ _ _ _ e) (px_k1 (px_ko (ts := [0, 0, 1, 0, 0]) (ss := []) fun ls st h q e => mo_product_91_ok hrc _ _ _ e) px_k0)) 55 6 _ _ h q e
set_option maxRecDepth 200000 in
theorem mo_product_ok {d : Nat} {rc : pC} (hrc : px_Or (d + 4) rc) {x1 : Int32} {h : pH} {q : Int32 × pH} (e : mo_product rc x1 h = some q) : px_Con (d + 5) 202 [.inr (.inl 51), .inl x1] h q :=
  px_con (X := pX_RX11) (b := prog_13_method_30_code) (nL := 5) (rt := (some .int)) rfl rfl (Nat.le_of_ble_eq_true rfl) rfl (px_blk_ok (d := d + 4) (M := (pX_RX11, prog_13_method_30_code, 5, (some .int))) (C := mo_product_orc rc) (code := mo_product_code) (ld := [6]) (kl := [(6, fun ls st h => px_if (px_fit [61, 1, 1, 0, 0] ls && px_fits [] st) (mo_product_6 rc px_F (px_gi ls 1) (px_gi ls 2) h))]) (mo_product_orc_ok hrc) pX_ok_RX11 mo_product_code_ok (px_k1 (px_ko (ts := [61, 1, 1, 0, 0]) (ss := []) fun ls st h q e => mo_product_6_ok hrc _ _ _ _ _ e) px_k0) 55 0 _ _ _ q e)
def mo_factor_code : pCode := [(0, .aload_n 0, 1), (1, .bipush (45), 2), (3, .invokevirtual 155, 3), (6, .ifCond .eq (10), 3), (9, .aload_n 0, 1), (10, .iload_n 1, 1), (11, .invokevirtual 206, 3), (14, .ineg, 1), (15, .ireturn, 1), (16, .aload_n 0, 1), (17, .invokevirtual 147, 3), (20, .ifCond .ne (5), 3), (23, .iconst 0, 1), (24, .ireturn, 1), (25, .aload_n 0, 1), (26, .invokevirtual 151, 3), (29, .istore_n 2, 1), (30, .iload_n 2, 1), (31, .bipush (40), 2), (33, .if_icmp .ne (34), 3), (36, .iload_n 1, 1), (37, .iconst 4, 1), (38, .if_icmp .ge (29), 3), (41, .aload_n 0, 1), (42, .dup, 1), (43, .getfield 141, 3), (46, .iconst 1, 1), (47, .iadd, 1), (48, .putfield 141, 3), (51, .aload_n 0, 1), (52, .iload_n 1, 1), (53, .iconst 1, 1), (54, .iadd, 1), (55, .invokevirtual 209, 3), (58, .istore_n 3, 1), (59, .aload_n 0, 1), (60, .bipush (41), 2), (62, .invokevirtual 193, 3), (65, .iload_n 3, 1), (66, .ireturn, 1), (67, .iload_n 2, 1), (68, .bipush (48), 2), (70, .bipush (57), 2), (72, .invokestatic 115, 3), (75, .ifCond .eq (9), 3), (78, .aload_n 0, 1), (79, .iconst 3, 1), (80, .invokevirtual 167, 3), (83, .ireturn, 1), (84, .iload_n 2, 1), (85, .invokestatic 212, 3), (88, .iconst (-1), 1), (89, .if_icmp .ne (13), 3), (92, .aload_n 0, 1), (93, .aload_n 0, 1), (94, .getfield 141, 3), (97, .invokevirtual 159, 3), (100, .iconst 0, 1), (101, .ireturn, 1), (102, .aload_n 0, 1), (103, .dup, 1), (104, .getfield 141, 3), (107, .iconst 1, 1), (108, .iadd, 1), (109, .putfield 141, 3), (112, .aload_n 0, 1), (113, .getfield 215, 3), (116, .ifCond .eq (15), 3), (119, .aload_n 0, 1), (120, .getfield 51, 3), (123, .iload_n 2, 1), (124, .invokestatic 212, 3), (127, .iaload, 1), (128, .goto (4), 3), (131, .iconst 0, 1), (132, .ireturn, 1)]
set_option maxRecDepth 200000 in
theorem mo_factor_code_ok : px_code prog_13_method_32_code mo_factor_code = true := by decide +kernel
noncomputable def mo_factor_orc (rc : pC) : pC := fun id a h => match px_mem [200, 201, 202, 204] id with
  | true => rc id a h
  | false => px_orc [(175, fun a h => match a with
    | [.inl v0, .inl v1, .inl v2] => mo_in v0 v1 v2 h
    | _ => none), (203, fun a h => match a with
    | [.inl v0] => mo_letterOf v0 h
    | _ => none), (190, fun a h => match a with
    | [.inr (.inl 51), .inl v1] => mo_fault v1 h
    | _ => none), (194, fun a h => match a with
    | [.inr (.inl 51), .inl v1] => mo_number v1 h
    | _ => none), (191, fun a h => match a with
    | [.inr (.inl 51), .inl v1] => mo_passes v1 h
    | _ => none), (189, fun a h => match a with
    | [.inr (.inl 51)] => mo_fine h
    | _ => none), (188, fun a h => match a with
    | [.inr (.inl 51)] => mo_here h
    | _ => none), (192, fun a h => match a with
    | [.inr (.inl 51), .inl v1] => mo_need v1 h
    | _ => none)] id a h
theorem mo_factor_orc_ok {d : Nat} {rc : pC} (hrc : px_Or (d + 4) rc) : px_Or (d + 4) (mo_factor_orc rc) := by
  intro id a h q e
  unfold mo_factor_orc at e
  split at e
  · exact hrc id a h q e
  · exact (px_orc_ok (by
      refine px_o1 (fun a h q e => by
        dsimp only at e
        split at e
        · exact mo_in_ok (d := d + 3) e
        · cases e) ?_
      refine px_o1 (fun a h q e => by
        dsimp only at e
        split at e
        · exact mo_letterOf_ok (d := d + 3) e
        · cases e) ?_
      refine px_o1 (fun a h q e => by
        dsimp only at e
        split at e
        · exact mo_fault_ok (d := d + 2) e
        · cases e) ?_
      refine px_o1 (fun a h q e => by
        dsimp only at e
        split at e
        · exact mo_number_ok (d := d + 0) e
        · cases e) ?_
      refine px_o1 (fun a h q e => by
        dsimp only at e
        split at e
        · exact mo_passes_ok (d := d + 2) e
        · cases e) ?_
      refine px_o1 (fun a h q e => by
        dsimp only at e
        split at e
        · exact mo_fine_ok (d := d + 3) e
        · cases e) ?_
      refine px_o1 (fun a h q e => by
        dsimp only at e
        split at e
        · exact mo_here_ok (d := d + 3) e
        · cases e) ?_
      refine px_o1 (fun a h q e => by
        dsimp only at e
        split at e
        · exact mo_need_ok (d := d + 1) e
        · cases e) ?_
      exact px_o0) : px_Or _ (px_orc [(175, fun a h => match a with
    | [.inl v0, .inl v1, .inl v2] => mo_in v0 v1 v2 h
    | _ => none), (203, fun a h => match a with
    | [.inl v0] => mo_letterOf v0 h
    | _ => none), (190, fun a h => match a with
    | [.inr (.inl 51), .inl v1] => mo_fault v1 h
    | _ => none), (194, fun a h => match a with
    | [.inr (.inl 51), .inl v1] => mo_number v1 h
    | _ => none), (191, fun a h => match a with
    | [.inr (.inl 51), .inl v1] => mo_passes v1 h
    | _ => none), (189, fun a h => match a with
    | [.inr (.inl 51)] => mo_fine h
    | _ => none), (188, fun a h => match a with
    | [.inr (.inl 51)] => mo_here h
    | _ => none), (192, fun a h => match a with
    | [.inr (.inl 51), .inl v1] => mo_need v1 h
    | _ => none)])) id a h q e
set_option maxRecDepth 200000 in
theorem mo_factor_132_ok {d : Nat} {rc : pC} (hrc : px_Or (d + 4) rc) : ∀ (s0 : Int32) (h : pH) (q : Int32 × pH), mo_factor_132 rc s0 h = some q → px_G (d + 4 + 1) (pX_RX11, prog_13_method_32_code, 4, (some .int)) 132 [none, none, none, none] [.inl s0] h q := by
  intro s0 h q e
  exact px_blk_ok (d := d + 4) (M := (pX_RX11, prog_13_method_32_code, 4, (some .int))) (C := mo_factor_orc rc) (code := mo_factor_code) (ld := []) (kl := []) (mo_factor_orc_ok hrc) pX_ok_RX11 mo_factor_code_ok (px_k0) 81 132 _ _ h q e
set_option maxRecDepth 200000 in
theorem mo_factor_67_ok {d : Nat} {rc : pC} (hrc : px_Or (d + 4) rc) : ∀ (x2 : Int32) (h : pH) (q : Int32 × pH), mo_factor_67 rc x2 h = some q → px_G (d + 4 + 1) (pX_RX11, prog_13_method_32_code, 4, (some .int)) 67 [some (.inr (.inl 51)), none, some (.inl x2), none] [] h q := by
  intro x2 h q e
  exact px_blk_ok (d := d + 4) (M := (pX_RX11, prog_13_method_32_code, 4, (some .int))) (C := mo_factor_orc rc) (code := mo_factor_code) (ld := [132]) (kl := [(132, fun ls st h => px_if (px_fit [0, 0, 0, 0] ls && px_fits [1] st) (mo_factor_132 rc (px_si st 0) h))]) (mo_factor_orc_ok hrc) pX_ok_RX11 mo_factor_code_ok (px_k1 (px_ko (ts := [0, 0, 0, 0]) (ss := [1]) fun ls st h q e => mo_factor_132_ok hrc _ _ _ e) px_k0) 81 67 _ _ h q e
set_option maxRecDepth 200000 in
theorem mo_factor_ok {d : Nat} {rc : pC} (hrc : px_Or (d + 4) rc) {x1 : Int32} {h : pH} {q : Int32 × pH} (e : mo_factor rc x1 h = some q) : px_Con (d + 5) 204 [.inr (.inl 51), .inl x1] h q :=
  px_con (X := pX_RX11) (b := prog_13_method_32_code) (nL := 4) (rt := (some .int)) rfl rfl (Nat.le_of_ble_eq_true rfl) rfl (px_blk_ok (d := d + 4) (M := (pX_RX11, prog_13_method_32_code, 4, (some .int))) (C := mo_factor_orc rc) (code := mo_factor_code) (ld := [67]) (kl := [(67, fun ls st h => px_if (px_fit [61, 0, 1, 0] ls && px_fits [] st) (mo_factor_67 rc (px_gi ls 2) h))]) (mo_factor_orc_ok hrc) pX_ok_RX11 mo_factor_code_ok (px_k1 (px_ko (ts := [61, 0, 1, 0]) (ss := []) fun ls st h q e => mo_factor_67_ok hrc _ _ _ e) px_k0) 81 0 _ _ _ q e)
noncomputable def mo_exprG : Nat → pC
  | 0 => fun _ _ _ => none
  | n + 1 => px_orc [(200, fun a h => match a with
      | [.inr (.inl 51), .inl v1] => mo_held (mo_exprG n) v1 h
      | _ => none), (201, fun a h => match a with
      | [.inr (.inl 51), .inl v1] => mo_sum (mo_exprG n) v1 h
      | _ => none), (202, fun a h => match a with
      | [.inr (.inl 51), .inl v1] => mo_product (mo_exprG n) v1 h
      | _ => none), (204, fun a h => match a with
      | [.inr (.inl 51), .inl v1] => mo_factor (mo_exprG n) v1 h
      | _ => none)]
theorem mo_exprG_ok {d : Nat} : ∀ n : Nat, px_Or (d + n + 4) (mo_exprG n) := by
  intro n
  induction n with
  | zero => intro id a h q e; cases e
  | succ n ih =>
    show px_Or (d + n + 4 + 1) _
    refine px_orc_ok ?_
    refine px_o1 (fun a h q e => by
      dsimp only at e
      split at e
      · exact mo_held_ok (d := d + n) ih e
      · cases e) ?_
    refine px_o1 (fun a h q e => by
      dsimp only at e
      split at e
      · exact mo_sum_ok (d := d + n) ih e
      · cases e) ?_
    refine px_o1 (fun a h q e => by
      dsimp only at e
      split at e
      · exact mo_product_ok (d := d + n) ih e
      · cases e) ?_
    refine px_o1 (fun a h q e => by
      dsimp only at e
      split at e
      · exact mo_factor_ok (d := d + n) ih e
      · cases e) ?_
    exact px_o0
noncomputable def mo_heldT (x1 : Int32) (h : pH) : pR := mo_exprG px_n100 200 [.inr (.inl 51), .inl x1] h
theorem mo_heldT_ok {d : Nat} {x1 : Int32} {h : pH} {q : Int32 × pH} (e : mo_heldT x1 h = some q) : px_Con (d + 104) 200 [.inr (.inl 51), .inl x1] h q := by
  have h9 := mo_exprG_ok (d := d) px_n100 200 _ h q e
  rw [px_n100_eq] at h9
  exact h9
/-! WordsUnsaidModel.rule()I -/
noncomputable def mo_rule_101 (h : pH) : pR :=
  some (px_c 0, h)
noncomputable def mo_rule_73 : Nat → Int32 → Int32 → pH → pR
  | 0, _, _, _ => none
  | n + 1, x1, x2, h =>
    if x1 ≤ x2 then
      let h1 := px_w h 51 26 x1
      mo_rule_101 h1
    else
      px_if (px_ok 1 58 x2 || px_ok 3 58 x2) <|
      px_if (px_ok 1 63 x2) <|
      let h2 := px_w h 63 x2.toNatClampNeg (px_nb (h 58 x2.toNatClampNeg))
      mo_rule_73 n x1 (x2 + px_c 1) h2
noncomputable def mo_rule_71 (x1 : Int32) (h : pH) : pR :=
  mo_rule_73 px_F x1 (px_c 0) h
noncomputable def mo_rule_57 (x1 : Int32) (h : pH) : pR :=
  px_bind (mo_fine h) fun z1 h2 =>
  if z1 = 0 then
    some ((px_c (-1)) - (h2 51 19), h2)
  else
    mo_rule_71 x1 h2
noncomputable def mo_rule_26 (x1 : Int32) (h : pH) : pR :=
  px_if (decide (px_c 0 = 0) || decide (px_c 0 = 1)) <|
  let h1 := px_w h 51 27 (px_c 0)
  if x1 ≤ 0 then
    mo_rule_71 x1 h1
  else
    px_bind (mo_heldT (px_c 0) h1) fun z2 h3 =>
    if x1 ≤ (h3 51 18) then
      mo_rule_57 x1 h3
    else
      px_bind (mo_fault (h3 51 18) h3) fun _ h5 =>
      mo_rule_57 x1 h5
noncomputable def mo_rule (h : pH) : pR :=
  let h1 := px_w h 51 14 (px_c 0)
  let y1_2 := h1 51 11
  px_bind (mo_begin 58 y1_2 (px_c 40) h1) fun _ h4 =>
  let h5 := px_w h4 51 11 (px_c 0)
  mo_rule_26 y1_2 h5
def mo_rule_code : pCode := [(0, .aload_n 0, 1), (1, .iconst 0, 1), (2, .putfield 106, 3), (5, .aload_n 0, 1), (6, .getfield 129, 3), (9, .istore_n 1, 1), (10, .aload_n 0, 1), (11, .aload_n 0, 1), (12, .getfield 32, 3), (15, .iload_n 1, 1), (16, .bipush (40), 2), (18, .invokevirtual 171, 3), (21, .aload_n 0, 1), (22, .iconst 0, 1), (23, .putfield 129, 3), (26, .aload_n 0, 1), (27, .iconst 0, 1), (28, .putfield 215, 3), (31, .iload_n 1, 1), (32, .ifCond .le (39), 3), (35, .aload_n 0, 1), (36, .iconst 0, 1), (37, .invokevirtual 209, 3), (40, .pop, 1), (41, .aload_n 0, 1), (42, .getfield 141, 3), (45, .iload_n 1, 1), (46, .if_icmp .ge (11), 3), (49, .aload_n 0, 1), (50, .aload_n 0, 1), (51, .getfield 141, 3), (54, .invokevirtual 159, 3), (57, .aload_n 0, 1), (58, .invokevirtual 147, 3), (61, .ifCond .ne (10), 3), (64, .iconst (-1), 1), (65, .aload_n 0, 1), (66, .getfield 144, 3), (69, .isub, 1), (70, .ireturn, 1), (71, .iconst 0, 1), (72, .istore_n 2, 1), (73, .iload_n 2, 1), (74, .iload_n 1, 1), (75, .if_icmp .ge (21), 3), (78, .aload_n 0, 1), (79, .getfield 48, 3), (82, .iload_n 2, 1), (83, .aload_n 0, 1), (84, .getfield 32, 3), (87, .iload_n 2, 1), (88, .baload, 1), (89, .bastore, 1), (90, .iinc 2 (1), 3), (93, .goto (-20), 3), (96, .aload_n 0, 1), (97, .iload_n 1, 1), (98, .putfield 219, 3), (101, .iconst 0, 1), (102, .ireturn, 1)]
set_option maxRecDepth 200000 in
theorem mo_rule_code_ok : px_code prog_13_method_33_code mo_rule_code = true := by decide +kernel
noncomputable def mo_rule_orc : pC := px_orc [(189, fun a h => match a with
    | [.inr (.inl 51)] => mo_fine h
    | _ => none), (200, fun a h => match a with
    | [.inr (.inl 51), .inl v1] => mo_heldT v1 h
    | _ => none), (190, fun a h => match a with
    | [.inr (.inl 51), .inl v1] => mo_fault v1 h
    | _ => none), (187, fun a h => match a with
    | [.inr (.inl 51), .inr (.inl v1), .inl v2, .inl v3] => mo_begin v1 v2 v3 h
    | _ => none)]
theorem mo_rule_orc_ok {d : Nat} : px_Or (d + 104) (mo_rule_orc) := px_orc_ok (by
  refine px_o1 (fun a h q e => by
    dsimp only at e
    split at e
    · exact mo_fine_ok (d := d + 103) e
    · cases e) ?_
  refine px_o1 (fun a h q e => by
    dsimp only at e
    split at e
    · exact mo_heldT_ok (d := d + 0) e
    · cases e) ?_
  refine px_o1 (fun a h q e => by
    dsimp only at e
    split at e
    · exact mo_fault_ok (d := d + 102) e
    · cases e) ?_
  refine px_o1 (fun a h q e => by
    dsimp only at e
    split at e
    · exact mo_begin_ok (d := d + 103) e
    · cases e) ?_
  exact px_o0)
set_option maxRecDepth 200000 in
theorem mo_rule_101_ok {d : Nat} : ∀ (h : pH) (q : Int32 × pH), mo_rule_101 h = some q → px_G (d + 104 + 1) (pX_RX11, prog_13_method_33_code, 3, (some .int)) 101 [none, none, none] [] h q := by
  intro h q e
  exact px_blk_ok (d := d + 104) (M := (pX_RX11, prog_13_method_33_code, 3, (some .int))) (C := mo_rule_orc) (code := mo_rule_code) (ld := []) (kl := []) (mo_rule_orc_ok) pX_ok_RX11 mo_rule_code_ok (px_k0) 65 101 _ _ h q e
set_option maxRecDepth 200000 in
theorem mo_rule_73_ok {d : Nat} : ∀ (n : Nat) (x1 : Int32) (x2 : Int32) (h : pH) (q : Int32 × pH), mo_rule_73 n x1 x2 h = some q → px_G (d + 104 + 1) (pX_RX11, prog_13_method_33_code, 3, (some .int)) 73 [some (.inr (.inl 51)), some (.inl x1), some (.inl x2)] [] h q := by
  intro n
  induction n with
  | zero =>
    intro x1 x2 h q e
    cases e
  | succ n ih =>
    intro x1 x2 h q e
    exact px_blk_ok (d := d + 104) (M := (pX_RX11, prog_13_method_33_code, 3, (some .int))) (C := mo_rule_orc) (code := mo_rule_code) (ld := [73, 101]) (kl := [(73, fun ls st h => px_if (px_fit [61, 1, 1] ls && px_fits [] st) (mo_rule_73 n (px_gi ls 1) (px_gi ls 2) h)), (101, fun ls st h => px_if (px_fit [0, 0, 0] ls && px_fits [] st) (mo_rule_101 h))]) (mo_rule_orc_ok) pX_ok_RX11 mo_rule_code_ok (px_k1 (px_ko (ts := [61, 1, 1]) (ss := []) fun ls st h q e => ih _ _ _ _ e) (px_k1 (px_ko (ts := [0, 0, 0]) (ss := []) fun ls st h q e => mo_rule_101_ok _ _ e) px_k0)) 65 73 _ _ h q e
set_option maxRecDepth 200000 in
theorem mo_rule_71_ok {d : Nat} : ∀ (x1 : Int32) (h : pH) (q : Int32 × pH), mo_rule_71 x1 h = some q → px_G (d + 104 + 1) (pX_RX11, prog_13_method_33_code, 3, (some .int)) 71 [some (.inr (.inl 51)), some (.inl x1), none] [] h q := by
  intro x1 h q e
  exact px_blk_ok (d := d + 104) (M := (pX_RX11, prog_13_method_33_code, 3, (some .int))) (C := mo_rule_orc) (code := mo_rule_code) (ld := [73]) (kl := [(73, fun ls st h => px_if (px_fit [61, 1, 1] ls && px_fits [] st) (mo_rule_73 px_F (px_gi ls 1) (px_gi ls 2) h))]) (mo_rule_orc_ok) pX_ok_RX11 mo_rule_code_ok (px_k1 (px_ko (ts := [61, 1, 1]) (ss := []) fun ls st h q e => mo_rule_73_ok _ _ _ _ _ e) px_k0) 65 71 _ _ h q e
set_option maxRecDepth 200000 in
theorem mo_rule_57_ok {d : Nat} : ∀ (x1 : Int32) (h : pH) (q : Int32 × pH), mo_rule_57 x1 h = some q → px_G (d + 104 + 1) (pX_RX11, prog_13_method_33_code, 3, (some .int)) 57 [some (.inr (.inl 51)), some (.inl x1), none] [] h q := by
  intro x1 h q e
  exact px_blk_ok (d := d + 104) (M := (pX_RX11, prog_13_method_33_code, 3, (some .int))) (C := mo_rule_orc) (code := mo_rule_code) (ld := [71]) (kl := [(71, fun ls st h => px_if (px_fit [61, 1, 0] ls && px_fits [] st) (mo_rule_71 (px_gi ls 1) h))]) (mo_rule_orc_ok) pX_ok_RX11 mo_rule_code_ok (px_k1 (px_ko (ts := [61, 1, 0]) (ss := []) fun ls st h q e => mo_rule_71_ok _ _ _ e) px_k0) 65 57 _ _ h q e
set_option maxRecDepth 200000 in
theorem mo_rule_26_ok {d : Nat} : ∀ (x1 : Int32) (h : pH) (q : Int32 × pH), mo_rule_26 x1 h = some q → px_G (d + 104 + 1) (pX_RX11, prog_13_method_33_code, 3, (some .int)) 26 [some (.inr (.inl 51)), some (.inl x1), none] [] h q := by
  intro x1 h q e
  exact px_blk_ok (d := d + 104) (M := (pX_RX11, prog_13_method_33_code, 3, (some .int))) (C := mo_rule_orc) (code := mo_rule_code) (ld := [57, 71]) (kl := [(57, fun ls st h => px_if (px_fit [61, 1, 0] ls && px_fits [] st) (mo_rule_57 (px_gi ls 1) h)), (71, fun ls st h => px_if (px_fit [61, 1, 0] ls && px_fits [] st) (mo_rule_71 (px_gi ls 1) h))]) (mo_rule_orc_ok) pX_ok_RX11 mo_rule_code_ok (px_k1 (px_ko (ts := [61, 1, 0]) (ss := []) fun ls st h q e => mo_rule_57_ok _ _ _ e) (px_k1 (px_ko (ts := [61, 1, 0]) (ss := []) fun ls st h q e => mo_rule_71_ok _ _ _ e) px_k0)) 65 26 _ _ h q e
set_option maxRecDepth 200000 in
theorem mo_rule_ok {d : Nat} {h : pH} {q : Int32 × pH} (e : mo_rule h = some q) : px_Con (d + 105) 205 [.inr (.inl 51)] h q :=
  px_con (X := pX_RX11) (b := prog_13_method_33_code) (nL := 3) (rt := (some .int)) rfl rfl (Nat.le_of_ble_eq_true rfl) rfl (px_blk_ok (d := d + 104) (M := (pX_RX11, prog_13_method_33_code, 3, (some .int))) (C := mo_rule_orc) (code := mo_rule_code) (ld := [26]) (kl := [(26, fun ls st h => px_if (px_fit [61, 1, 0] ls && px_fits [] st) (mo_rule_26 (px_gi ls 1) h))]) (mo_rule_orc_ok) pX_ok_RX11 mo_rule_code_ok (px_k1 (px_ko (ts := [61, 1, 0]) (ss := []) fun ls st h q e => mo_rule_26_ok _ _ _ e) px_k0) 65 0 _ _ _ q e)
/-! WordsUnsaidModel.pressureOf([IIIII)I -/
noncomputable def mo_pressureOf_135 (h : pH) : pR :=
  px_bind (mo_heldT (px_c 0) h) fun z1 h2 =>
  px_if (decide (px_c 0 = 0) || decide (px_c 0 = 1)) <|
  let h3 := px_w h2 51 27 (px_c 0)
  some (z1, h3)
noncomputable def mo_pressureOf_115 (s0 : Int32) (s1 : Int32) (h : pH) : pR :=
  px_if (px_ok 0 64 s1) <|
  let h1 := px_w h 64 s1.toNatClampNeg s0
  px_bind (mo_begin 63 (h1 51 26) (px_c 40) h1) fun _ h3 =>
  px_if (decide (px_c 1 = 0) || decide (px_c 1 = 1)) <|
  let h4 := px_w h3 51 27 (px_c 1)
  mo_pressureOf_135 h4
noncomputable def mo_pressureOf_114 (s0 : Int32) (h : pH) : pR :=
  mo_pressureOf_115 (px_c 0) s0 h
noncomputable def mo_pressureOf_80 (x2 : Int32) (x5 : Int32) (h : pH) : pR :=
  px_if (px_ok 0 57 x2) <|
  if (h 57 x2.toNatClampNeg) = (px_c (-1)) then
    mo_pressureOf_114 (px_c 6) h
  else
    px_if (px_ok 0 57 x2) <|
    px_bind (mo_has x5 (h 57 x2.toNatClampNeg) h) fun z1 h2 =>
    if z1 = 0 then
      mo_pressureOf_114 (px_c 6) h2
    else
      mo_pressureOf_115 (px_c 1) (px_c 6) h2
noncomputable def mo_pressureOf_57 (a1 : Nat) (x2 : Int32) (x5 : Int32) (h : pH) : pR :=
  px_bind (jn_bitCount x5 h) fun z1 h2 =>
  px_if (px_ok 0 64 (px_c 4)) <|
  let h3 := px_w h2 64 (px_c 4).toNatClampNeg z1
  px_if (px_ok 0 a1 ((px_c 32) + x2)) <|
  px_if (px_ok 0 64 (px_c 5)) <|
  let h4 := px_w h3 64 (px_c 5).toNatClampNeg (h3 a1 ((px_c 32) + x2).toNatClampNeg)
  mo_pressureOf_80 x2 x5 h4
noncomputable def mo_pressureOf_37 (a1 : Nat) (x2 : Int32) (x4 : Int32) (x5 : Int32) (h : pH) : pR :=
  px_if (px_ok 0 a1 ((px_c 12) + x2)) <|
  px_if (px_ok 0 64 (px_c 2)) <|
  let h1 := px_w h 64 (px_c 2).toNatClampNeg (h a1 ((px_c 12) + x2).toNatClampNeg)
  px_if (px_ok 0 64 (px_c 3)) <|
  let h2 := px_w h1 64 (px_c 3).toNatClampNeg x4
  mo_pressureOf_57 a1 x2 x5 h2
noncomputable def mo_pressureOf (a1 : Nat) (x2 : Int32) (x3 : Int32) (x4 : Int32) (x5 : Int32) (h : pH) : pR :=
  if (h 51 26) = 0 then
    px_if (px_ok 0 56 x2) <|
    if (px_c 2) = 0 then none else
    some ((h 56 x2.toNatClampNeg) + (x3 / (px_c 2)), h)
  else
    px_if (px_ok 0 56 x2) <|
    px_if (px_ok 0 64 (px_c 0)) <|
    let h1 := px_w h 64 (px_c 0).toNatClampNeg (h 56 x2.toNatClampNeg)
    px_if (px_ok 0 64 (px_c 1)) <|
    let h2 := px_w h1 64 (px_c 1).toNatClampNeg x3
    mo_pressureOf_37 a1 x2 x4 x5 h2
def mo_pressureOf_code : pCode := [(0, .aload_n 0, 1), (1, .getfield 219, 3), (4, .ifCond .ne (14), 3), (7, .aload_n 0, 1), (8, .getfield 26, 3), (11, .iload_n 2, 1), (12, .iaload, 1), (13, .iload_n 3, 1), (14, .iconst 2, 1), (15, .idiv, 1), (16, .iadd, 1), (17, .ireturn, 1), (18, .aload_n 0, 1), (19, .getfield 51, 3), (22, .iconst 0, 1), (23, .aload_n 0, 1), (24, .getfield 26, 3), (27, .iload_n 2, 1), (28, .iaload, 1), (29, .iastore, 1), (30, .aload_n 0, 1), (31, .getfield 51, 3), (34, .iconst 1, 1), (35, .iload_n 3, 1), (36, .iastore, 1), (37, .aload_n 0, 1), (38, .getfield 51, 3), (41, .iconst 2, 1), (42, .aload_n 1, 1), (43, .bipush (12), 2), (45, .iload_n 2, 1), (46, .iadd, 1), (47, .iaload, 1), (48, .iastore, 1), (49, .aload_n 0, 1), (50, .getfield 51, 3), (53, .iconst 3, 1), (54, .iload 4, 2), (56, .iastore, 1), (57, .aload_n 0, 1), (58, .getfield 51, 3), (61, .iconst 4, 1), (62, .iload 5, 2), (64, .invokestatic 222, 3), (67, .iastore, 1), (68, .aload_n 0, 1), (69, .getfield 51, 3), (72, .iconst 5, 1), (73, .aload_n 1, 1), (74, .bipush (32), 2), (76, .iload_n 2, 1), (77, .iadd, 1), (78, .iaload, 1), (79, .iastore, 1), (80, .aload_n 0, 1), (81, .getfield 51, 3), (84, .bipush (6), 2), (86, .aload_n 0, 1), (87, .getfield 29, 3), (90, .iload_n 2, 1), (91, .iaload, 1), (92, .iconst (-1), 1), (93, .if_icmp .eq (21), 3), (96, .iload 5, 2), (98, .aload_n 0, 1), (99, .getfield 29, 3), (102, .iload_n 2, 1), (103, .iaload, 1), (104, .invokestatic 227, 3), (107, .ifCond .eq (7), 3), (110, .iconst 1, 1), (111, .goto (4), 3), (114, .iconst 0, 1), (115, .iastore, 1), (116, .aload_n 0, 1), (117, .aload_n 0, 1), (118, .getfield 48, 3), (121, .aload_n 0, 1), (122, .getfield 219, 3), (125, .bipush (40), 2), (127, .invokevirtual 171, 3), (130, .aload_n 0, 1), (131, .iconst 1, 1), (132, .putfield 215, 3), (135, .aload_n 0, 1), (136, .iconst 0, 1), (137, .invokevirtual 209, 3), (140, .istore 6, 2), (142, .aload_n 0, 1), (143, .iconst 0, 1), (144, .putfield 215, 3), (147, .iload 6, 2), (149, .ireturn, 1)]
set_option maxRecDepth 200000 in
theorem mo_pressureOf_code_ok : px_code prog_13_method_34_code mo_pressureOf_code = true := by decide +kernel
noncomputable def mo_pressureOf_orc : pC := px_orc [(200, fun a h => match a with
    | [.inr (.inl 51), .inl v1] => mo_heldT v1 h
    | _ => none), (187, fun a h => match a with
    | [.inr (.inl 51), .inr (.inl v1), .inl v2, .inl v3] => mo_begin v1 v2 v3 h
    | _ => none), (176, fun a h => match a with
    | [.inl v0, .inl v1] => mo_has v0 v1 h
    | _ => none), (279, fun a h => match a with
    | [.inl v0] => jn_bitCount v0 h
    | _ => none)]
theorem mo_pressureOf_orc_ok {d : Nat} : px_Or (d + 104) (mo_pressureOf_orc) := px_orc_ok (by
  refine px_o1 (fun a h q e => by
    dsimp only at e
    split at e
    · exact mo_heldT_ok (d := d + 0) e
    · cases e) ?_
  refine px_o1 (fun a h q e => by
    dsimp only at e
    split at e
    · exact mo_begin_ok (d := d + 103) e
    · cases e) ?_
  refine px_o1 (fun a h q e => by
    dsimp only at e
    split at e
    · exact mo_has_ok (d := d + 103) e
    · cases e) ?_
  refine px_o1 (fun a h q e => by
    dsimp only at e
    split at e
    · exact jn_bitCount_ok (d := d + 103) e
    · cases e) ?_
  exact px_o0)
set_option maxRecDepth 200000 in
theorem mo_pressureOf_135_ok {d : Nat} : ∀ (h : pH) (q : Int32 × pH), mo_pressureOf_135 h = some q → px_G (d + 104 + 1) (pX_RX11, prog_13_method_34_code, 7, (some .int)) 135 [some (.inr (.inl 51)), none, none, none, none, none, none] [] h q := by
  intro h q e
  exact px_blk_ok (d := d + 104) (M := (pX_RX11, prog_13_method_34_code, 7, (some .int))) (C := mo_pressureOf_orc) (code := mo_pressureOf_code) (ld := []) (kl := []) (mo_pressureOf_orc_ok) pX_ok_RX11 mo_pressureOf_code_ok (px_k0) 98 135 _ _ h q e
set_option maxRecDepth 200000 in
theorem mo_pressureOf_115_ok {d : Nat} : ∀ (s0 : Int32) (s1 : Int32) (h : pH) (q : Int32 × pH), mo_pressureOf_115 s0 s1 h = some q → px_G (d + 104 + 1) (pX_RX11, prog_13_method_34_code, 7, (some .int)) 115 [some (.inr (.inl 51)), none, none, none, none, none, none] [.inl s0, .inl s1, .inr (.inl 64)] h q := by
  intro s0 s1 h q e
  exact px_blk_ok (d := d + 104) (M := (pX_RX11, prog_13_method_34_code, 7, (some .int))) (C := mo_pressureOf_orc) (code := mo_pressureOf_code) (ld := [135]) (kl := [(135, fun ls st h => px_if (px_fit [61, 0, 0, 0, 0, 0, 0] ls && px_fits [] st) (mo_pressureOf_135 h))]) (mo_pressureOf_orc_ok) pX_ok_RX11 mo_pressureOf_code_ok (px_k1 (px_ko (ts := [61, 0, 0, 0, 0, 0, 0]) (ss := []) fun ls st h q e => mo_pressureOf_135_ok _ _ e) px_k0) 98 115 _ _ h q e
set_option maxRecDepth 200000 in
theorem mo_pressureOf_114_ok {d : Nat} : ∀ (s0 : Int32) (h : pH) (q : Int32 × pH), mo_pressureOf_114 s0 h = some q → px_G (d + 104 + 1) (pX_RX11, prog_13_method_34_code, 7, (some .int)) 114 [some (.inr (.inl 51)), none, none, none, none, none, none] [.inl s0, .inr (.inl 64)] h q := by
  intro s0 h q e
  exact px_blk_ok (d := d + 104) (M := (pX_RX11, prog_13_method_34_code, 7, (some .int))) (C := mo_pressureOf_orc) (code := mo_pressureOf_code) (ld := [115]) (kl := [(115, fun ls st h => px_if (px_fit [61, 0, 0, 0, 0, 0, 0] ls && px_fits [1, 1, 74] st) (mo_pressureOf_115 (px_si st 0) (px_si st 1) h))]) (mo_pressureOf_orc_ok) pX_ok_RX11 mo_pressureOf_code_ok (px_k1 (px_ko (ts := [61, 0, 0, 0, 0, 0, 0]) (ss := [1, 1, 74]) fun ls st h q e => mo_pressureOf_115_ok _ _ _ _ e) px_k0) 98 114 _ _ h q e
set_option maxRecDepth 200000 in
theorem mo_pressureOf_80_ok {d : Nat} : ∀ (x2 : Int32) (x5 : Int32) (h : pH) (q : Int32 × pH), mo_pressureOf_80 x2 x5 h = some q → px_G (d + 104 + 1) (pX_RX11, prog_13_method_34_code, 7, (some .int)) 80 [some (.inr (.inl 51)), none, some (.inl x2), none, none, some (.inl x5), none] [] h q := by
  intro x2 x5 h q e
  exact px_blk_ok (d := d + 104) (M := (pX_RX11, prog_13_method_34_code, 7, (some .int))) (C := mo_pressureOf_orc) (code := mo_pressureOf_code) (ld := [114, 115]) (kl := [(114, fun ls st h => px_if (px_fit [61, 0, 0, 0, 0, 0, 0] ls && px_fits [1, 74] st) (mo_pressureOf_114 (px_si st 0) h)), (115, fun ls st h => px_if (px_fit [61, 0, 0, 0, 0, 0, 0] ls && px_fits [1, 1, 74] st) (mo_pressureOf_115 (px_si st 0) (px_si st 1) h))]) (mo_pressureOf_orc_ok) pX_ok_RX11 mo_pressureOf_code_ok (px_k1 (px_ko (ts := [61, 0, 0, 0, 0, 0, 0]) (ss := [1, 74]) fun ls st h q e => mo_pressureOf_114_ok _ _ _ e) (px_k1 (px_ko (ts := [61, 0, 0, 0, 0, 0, 0]) (ss := [1, 1, 74]) fun ls st h q e => mo_pressureOf_115_ok _ _ _ _ e) px_k0)) 98 80 _ _ h q e
set_option maxRecDepth 200000 in
theorem mo_pressureOf_57_ok {d : Nat} : ∀ (a1 : Nat) (x2 : Int32) (x5 : Int32) (h : pH) (q : Int32 × pH), mo_pressureOf_57 a1 x2 x5 h = some q → px_G (d + 104 + 1) (pX_RX11, prog_13_method_34_code, 7, (some .int)) 57 [some (.inr (.inl 51)), some (.inr (.inl a1)), some (.inl x2), none, none, some (.inl x5), none] [] h q := by
  intro a1 x2 x5 h q e
  exact px_blk_ok (d := d + 104) (M := (pX_RX11, prog_13_method_34_code, 7, (some .int))) (C := mo_pressureOf_orc) (code := mo_pressureOf_code) (ld := [80]) (kl := [(80, fun ls st h => px_if (px_fit [61, 0, 1, 0, 0, 1, 0] ls && px_fits [] st) (mo_pressureOf_80 (px_gi ls 2) (px_gi ls 5) h))]) (mo_pressureOf_orc_ok) pX_ok_RX11 mo_pressureOf_code_ok (px_k1 (px_ko (ts := [61, 0, 1, 0, 0, 1, 0]) (ss := []) fun ls st h q e => mo_pressureOf_80_ok _ _ _ _ e) px_k0) 98 57 _ _ h q e
set_option maxRecDepth 200000 in
theorem mo_pressureOf_37_ok {d : Nat} : ∀ (a1 : Nat) (x2 : Int32) (x4 : Int32) (x5 : Int32) (h : pH) (q : Int32 × pH), mo_pressureOf_37 a1 x2 x4 x5 h = some q → px_G (d + 104 + 1) (pX_RX11, prog_13_method_34_code, 7, (some .int)) 37 [some (.inr (.inl 51)), some (.inr (.inl a1)), some (.inl x2), none, some (.inl x4), some (.inl x5), none] [] h q := by
  intro a1 x2 x4 x5 h q e
  exact px_blk_ok (d := d + 104) (M := (pX_RX11, prog_13_method_34_code, 7, (some .int))) (C := mo_pressureOf_orc) (code := mo_pressureOf_code) (ld := [57]) (kl := [(57, fun ls st h => px_if (px_fit [61, 2, 1, 0, 0, 1, 0] ls && px_fits [] st) (mo_pressureOf_57 (px_gr ls 1) (px_gi ls 2) (px_gi ls 5) h))]) (mo_pressureOf_orc_ok) pX_ok_RX11 mo_pressureOf_code_ok (px_k1 (px_ko (ts := [61, 2, 1, 0, 0, 1, 0]) (ss := []) fun ls st h q e => mo_pressureOf_57_ok _ _ _ _ _ e) px_k0) 98 37 _ _ h q e
set_option maxRecDepth 200000 in
theorem mo_pressureOf_ok {d : Nat} {a1 : Nat} {x2 : Int32} {x3 : Int32} {x4 : Int32} {x5 : Int32} {h : pH} {q : Int32 × pH} (e : mo_pressureOf a1 x2 x3 x4 x5 h = some q) : px_Con (d + 105) 206 [.inr (.inl 51), .inr (.inl a1), .inl x2, .inl x3, .inl x4, .inl x5] h q :=
  px_con (X := pX_RX11) (b := prog_13_method_34_code) (nL := 7) (rt := (some .int)) rfl rfl (Nat.le_of_ble_eq_true rfl) rfl (px_blk_ok (d := d + 104) (M := (pX_RX11, prog_13_method_34_code, 7, (some .int))) (C := mo_pressureOf_orc) (code := mo_pressureOf_code) (ld := [37]) (kl := [(37, fun ls st h => px_if (px_fit [61, 2, 1, 0, 1, 1, 0] ls && px_fits [] st) (mo_pressureOf_37 (px_gr ls 1) (px_gi ls 2) (px_gi ls 4) (px_gi ls 5) h))]) (mo_pressureOf_orc_ok) pX_ok_RX11 mo_pressureOf_code_ok (px_k1 (px_ko (ts := [61, 2, 1, 0, 1, 1, 0]) (ss := []) fun ls st h q e => mo_pressureOf_37_ok _ _ _ _ _ _ e) px_k0) 98 0 _ _ _ q e)
