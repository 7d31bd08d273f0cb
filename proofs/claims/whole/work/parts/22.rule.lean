/-! Rule, Memory, Act, Fleet -/
/-! WordsUnsaid$Rule.bondOf(I)I -/
noncomputable def ru_bondOf (x0 : Int32) (h : pH) : pR :=
  if x0 = px_c 42 then
    some (px_c 3, h)
  else
  if x0 = px_c 43 then
    some (px_c 2, h)
  else
  if x0 = px_c 45 then
    some (px_c 2, h)
  else
  if x0 = px_c 47 then
    some (px_c 3, h)
  else
  if x0 = px_c 60 then
    some (px_c 1, h)
  else
  if x0 = px_c 61 then
    some (px_c 1, h)
  else
  if x0 = px_c 62 then
    some (px_c 1, h)
  else
  if x0 = px_c 256 then
    some (px_c 4, h)
  else
    some (px_c 0, h)
def ru_bondOf_code : pCode := [(0, .iload_n 0, 1), (1, .lookupswitch (83) #[(42, 79), (43, 77), (45, 77), (47, 79), (60, 75), (61, 75), (62, 75), (256, 81)], 75), (76, .iconst 1, 1), (77, .ireturn, 1), (78, .iconst 2, 1), (79, .ireturn, 1), (80, .iconst 3, 1), (81, .ireturn, 1), (82, .iconst 4, 1), (83, .ireturn, 1), (84, .iconst 0, 1), (85, .ireturn, 1)]
set_option maxRecDepth 200000 in
theorem ru_bondOf_code_ok : px_code prog_8_method_8_code ru_bondOf_code = true := by decide +kernel
noncomputable def ru_bondOf_orc : pC := px_orc []
theorem ru_bondOf_orc_ok {d : Nat} : px_Or (d + 0) (ru_bondOf_orc) := px_orc_ok (by
  exact px_o0)
set_option maxRecDepth 200000 in
theorem ru_bondOf_ok {d : Nat} {x0 : Int32} {h : pH} {q : Int32 × pH} (e : ru_bondOf x0 h = some q) : px_Con (d + 1) 72 [.inl x0] h q :=
  px_con (X := pX_RX6) (b := prog_8_method_8_code) (nL := 1) (rt := (some .int)) rfl rfl (Nat.le_of_ble_eq_true rfl) rfl (px_blk_ok (d := d + 0) (M := (pX_RX6, prog_8_method_8_code, 1, (some .int))) (C := ru_bondOf_orc) (code := ru_bondOf_code) (ld := []) (kl := []) (ru_bondOf_orc_ok) pX_ok_RX6 ru_bondOf_code_ok (px_k0) 17 0 _ _ _ q e)
/-! WordsUnsaid$Rule.write(I)V -/
noncomputable def ru_write (x1 : Int32) (h : pH) : pR :=
  px_bind (wu_put 19 (h 17 5) x1 h) fun _ h2 =>
  let h3 := px_w h2 17 5 ((h2 17 5) + (px_c 1))
  some (0, h3)
def ru_write_code : pCode := [(0, .aload_n 0, 1), (1, .getfield 15, 3), (4, .aload_n 0, 1), (5, .getfield 25, 3), (8, .iload_n 1, 1), (9, .invokestatic 47, 3), (12, .aload_n 0, 1), (13, .dup, 1), (14, .getfield 25, 3), (17, .iconst 1, 1), (18, .iadd, 1), (19, .putfield 25, 3), (22, .return_, 1)]
set_option maxRecDepth 200000 in
theorem ru_write_code_ok : px_code prog_8_method_11_code ru_write_code = true := by decide +kernel
noncomputable def ru_write_orc : pC := px_orc [(159, fun a h => match a with
    | [.inr (.inl v0), .inl v1, .inl v2] => wu_put v0 v1 v2 h
    | _ => none)]
theorem ru_write_orc_ok {d : Nat} : px_Or (d + 1) (ru_write_orc) := px_orc_ok (by
  refine px_o1 (fun a h q e => by
    dsimp only at e
    split at e
    · exact wu_put_ok (d := d + 0) e
    · cases e) ?_
  exact px_o0)
set_option maxRecDepth 200000 in
theorem ru_write_ok {d : Nat} {x1 : Int32} {h : pH} {q : Int32 × pH} (e : ru_write x1 h = some q) : px_Con (d + 2) 75 [.inr (.inl 17), .inl x1] h q :=
  px_con (X := pX_RX6) (b := prog_8_method_11_code) (nL := 2) (rt := none) rfl rfl (Nat.le_of_ble_eq_true rfl) rfl (px_blk_ok (d := d + 1) (M := (pX_RX6, prog_8_method_11_code, 2, none)) (C := ru_write_orc) (code := ru_write_code) (ld := []) (kl := []) (ru_write_orc_ok) pX_ok_RX6 ru_write_code_ok (px_k0) 18 0 _ _ _ q e)
/-! WordsUnsaid$Rule.writeWaiting(I)V -/
noncomputable def ru_writeWaiting_66 (h : pH) : pR :=
  some (0, h)
noncomputable def ru_writeWaiting_43 (h : pH) : pR :=
  some (0, h)
noncomputable def ru_writeWaiting_2 : Nat → Int32 → Int32 → pH → pR
  | 0, _, _, _ => none
  | n + 1, x1, x2, h =>
    if (px_c 40) ≤ x2 then
      ru_writeWaiting_66 h
    else
      if (h 17 6) ≤ 0 then
        ru_writeWaiting_66 h
      else
        px_bind (wu_at 20 ((h 17 6) - (px_c 1)) h) fun z1 h2 =>
        if z1 = (px_c 40) then
          ru_writeWaiting_43 h2
        else
          px_bind (ru_bondOf z1 h2) fun z3 h4 =>
          if x1 ≤ z3 then
            px_bind (ru_write (-z1) h4) fun _ h6 =>
            let h7 := px_w h6 17 6 ((h6 17 6) - (px_c 1))
            ru_writeWaiting_2 n x1 (x2 + px_c 1) h7
          else
            ru_writeWaiting_43 h4
noncomputable def ru_writeWaiting (x1 : Int32) (h : pH) : pR :=
  ru_writeWaiting_2 px_F x1 (px_c 0) h
def ru_writeWaiting_code : pCode := [(0, .iconst 0, 1), (1, .istore_n 2, 1), (2, .iload_n 2, 1), (3, .bipush (40), 2), (5, .if_icmp .ge (61), 3), (8, .aload_n 0, 1), (9, .getfield 55, 3), (12, .ifCond .le (54), 3), (15, .aload_n 0, 1), (16, .getfield 18, 3), (19, .aload_n 0, 1), (20, .getfield 55, 3), (23, .iconst 1, 1), (24, .isub, 1), (25, .invokestatic 43, 3), (28, .istore_n 3, 1), (29, .iload_n 3, 1), (30, .bipush (40), 2), (32, .if_icmp .eq (11), 3), (35, .iload_n 3, 1), (36, .invokestatic 111, 3), (39, .iload_n 1, 1), (40, .if_icmp .ge (4), 3), (43, .return_, 1), (44, .aload_n 0, 1), (45, .iload_n 3, 1), (46, .ineg, 1), (47, .invokevirtual 102, 3), (50, .aload_n 0, 1), (51, .dup, 1), (52, .getfield 55, 3), (55, .iconst 1, 1), (56, .isub, 1), (57, .putfield 55, 3), (60, .iinc 2 (1), 3), (63, .goto (-61), 3), (66, .return_, 1)]
set_option maxRecDepth 200000 in
theorem ru_writeWaiting_code_ok : px_code prog_8_method_13_code ru_writeWaiting_code = true := by decide +kernel
noncomputable def ru_writeWaiting_orc : pC := px_orc [(158, fun a h => match a with
    | [.inr (.inl v0), .inl v1] => wu_at v0 v1 h
    | _ => none), (72, fun a h => match a with
    | [.inl v0] => ru_bondOf v0 h
    | _ => none), (75, fun a h => match a with
    | [.inr (.inl 17), .inl v1] => ru_write v1 h
    | _ => none)]
theorem ru_writeWaiting_orc_ok {d : Nat} : px_Or (d + 2) (ru_writeWaiting_orc) := px_orc_ok (by
  refine px_o1 (fun a h q e => by
    dsimp only at e
    split at e
    · exact wu_at_ok (d := d + 1) e
    · cases e) ?_
  refine px_o1 (fun a h q e => by
    dsimp only at e
    split at e
    · exact ru_bondOf_ok (d := d + 1) e
    · cases e) ?_
  refine px_o1 (fun a h q e => by
    dsimp only at e
    split at e
    · exact ru_write_ok (d := d + 0) e
    · cases e) ?_
  exact px_o0)
set_option maxRecDepth 200000 in
theorem ru_writeWaiting_66_ok {d : Nat} : ∀ (h : pH) (q : Int32 × pH), ru_writeWaiting_66 h = some q → px_G (d + 2 + 1) (pX_RX6, prog_8_method_13_code, 4, none) 66 [none, none, none, none] [] h q := by
  intro h q e
  exact px_blk_ok (d := d + 2) (M := (pX_RX6, prog_8_method_13_code, 4, none)) (C := ru_writeWaiting_orc) (code := ru_writeWaiting_code) (ld := []) (kl := []) (ru_writeWaiting_orc_ok) pX_ok_RX6 ru_writeWaiting_code_ok (px_k0) 42 66 _ _ h q e
set_option maxRecDepth 200000 in
theorem ru_writeWaiting_43_ok {d : Nat} : ∀ (h : pH) (q : Int32 × pH), ru_writeWaiting_43 h = some q → px_G (d + 2 + 1) (pX_RX6, prog_8_method_13_code, 4, none) 43 [none, none, none, none] [] h q := by
  intro h q e
  exact px_blk_ok (d := d + 2) (M := (pX_RX6, prog_8_method_13_code, 4, none)) (C := ru_writeWaiting_orc) (code := ru_writeWaiting_code) (ld := []) (kl := []) (ru_writeWaiting_orc_ok) pX_ok_RX6 ru_writeWaiting_code_ok (px_k0) 42 43 _ _ h q e
set_option maxRecDepth 200000 in
theorem ru_writeWaiting_2_ok {d : Nat} : ∀ (n : Nat) (x1 : Int32) (x2 : Int32) (h : pH) (q : Int32 × pH), ru_writeWaiting_2 n x1 x2 h = some q → px_G (d + 2 + 1) (pX_RX6, prog_8_method_13_code, 4, none) 2 [some (.inr (.inl 17)), some (.inl x1), some (.inl x2), none] [] h q := by
  intro n
  induction n with
  | zero =>
    intro x1 x2 h q e
    cases e
  | succ n ih =>
    intro x1 x2 h q e
    exact px_blk_ok (d := d + 2) (M := (pX_RX6, prog_8_method_13_code, 4, none)) (C := ru_writeWaiting_orc) (code := ru_writeWaiting_code) (ld := [2, 43, 66]) (kl := [(2, fun ls st h => px_if (px_fit [27, 1, 1, 0] ls && px_fits [] st) (ru_writeWaiting_2 n (px_gi ls 1) (px_gi ls 2) h)), (43, fun ls st h => px_if (px_fit [0, 0, 0, 0] ls && px_fits [] st) (ru_writeWaiting_43 h)), (66, fun ls st h => px_if (px_fit [0, 0, 0, 0] ls && px_fits [] st) (ru_writeWaiting_66 h))]) (ru_writeWaiting_orc_ok) pX_ok_RX6 ru_writeWaiting_code_ok (px_k1 (px_ko (ts := [27, 1, 1, 0]) (ss := []) fun ls st h q e => ih _ _ _ _ e) (px_k1 (px_ko (ts := [0, 0, 0, 0]) (ss := []) fun ls st h q e => ru_writeWaiting_43_ok _ _ e) (px_k1 (px_ko (ts := [0, 0, 0, 0]) (ss := []) fun ls st h q e => ru_writeWaiting_66_ok _ _ e) px_k0))) 42 2 _ _ h q e
set_option maxRecDepth 200000 in
theorem ru_writeWaiting_ok {d : Nat} {x1 : Int32} {h : pH} {q : Int32 × pH} (e : ru_writeWaiting x1 h = some q) : px_Con (d + 3) 77 [.inr (.inl 17), .inl x1] h q :=
  px_con (X := pX_RX6) (b := prog_8_method_13_code) (nL := 4) (rt := none) rfl rfl (Nat.le_of_ble_eq_true rfl) rfl (px_blk_ok (d := d + 2) (M := (pX_RX6, prog_8_method_13_code, 4, none)) (C := ru_writeWaiting_orc) (code := ru_writeWaiting_code) (ld := [2]) (kl := [(2, fun ls st h => px_if (px_fit [27, 1, 1, 0] ls && px_fits [] st) (ru_writeWaiting_2 px_F (px_gi ls 1) (px_gi ls 2) h))]) (ru_writeWaiting_orc_ok) pX_ok_RX6 ru_writeWaiting_code_ok (px_k1 (px_ko (ts := [27, 1, 1, 0]) (ss := []) fun ls st h q e => ru_writeWaiting_2_ok _ _ _ _ _ e) px_k0) 42 0 _ _ _ q e)
/-! WordsUnsaid$Rule.defer(I)V -/
noncomputable def ru_defer (x1 : Int32) (h : pH) : pR :=
  px_bind (wu_put 20 (h 17 6) x1 h) fun _ h2 =>
  let h3 := px_w h2 17 6 ((h2 17 6) + (px_c 1))
  some (0, h3)
def ru_defer_code : pCode := [(0, .aload_n 0, 1), (1, .getfield 18, 3), (4, .aload_n 0, 1), (5, .getfield 55, 3), (8, .iload_n 1, 1), (9, .invokestatic 47, 3), (12, .aload_n 0, 1), (13, .dup, 1), (14, .getfield 55, 3), (17, .iconst 1, 1), (18, .iadd, 1), (19, .putfield 55, 3), (22, .return_, 1)]
set_option maxRecDepth 200000 in
theorem ru_defer_code_ok : px_code prog_8_method_12_code ru_defer_code = true := by decide +kernel
noncomputable def ru_defer_orc : pC := px_orc [(159, fun a h => match a with
    | [.inr (.inl v0), .inl v1, .inl v2] => wu_put v0 v1 v2 h
    | _ => none)]
theorem ru_defer_orc_ok {d : Nat} : px_Or (d + 1) (ru_defer_orc) := px_orc_ok (by
  refine px_o1 (fun a h q e => by
    dsimp only at e
    split at e
    · exact wu_put_ok (d := d + 0) e
    · cases e) ?_
  exact px_o0)
set_option maxRecDepth 200000 in
theorem ru_defer_ok {d : Nat} {x1 : Int32} {h : pH} {q : Int32 × pH} (e : ru_defer x1 h = some q) : px_Con (d + 2) 76 [.inr (.inl 17), .inl x1] h q :=
  px_con (X := pX_RX6) (b := prog_8_method_12_code) (nL := 2) (rt := none) rfl rfl (Nat.le_of_ble_eq_true rfl) rfl (px_blk_ok (d := d + 1) (M := (pX_RX6, prog_8_method_12_code, 2, none)) (C := ru_defer_orc) (code := ru_defer_code) (ld := []) (kl := []) (ru_defer_orc_ok) pX_ok_RX6 ru_defer_code_ok (px_k0) 18 0 _ _ _ q e)
/-! WordsUnsaid$Rule.compare(Z)V -/
noncomputable def ru_compare_29 (h : pH) : pR :=
  some (0, h)
noncomputable def ru_compare (x1 : Int32) (h : pH) : pR :=
  if (h 17 7) < 0 then
    ru_compare_29 h
  else
    if (nI (px_len 21)) ≤ (h 17 7) then
      ru_compare_29 h
    else
      px_if (px_ok 3 21 (h 17 7)) <|
      let h1 := px_w h 21 (h 17 7).toNatClampNeg (px_nz x1)
      ru_compare_29 h1
def ru_compare_code : pCode := [(0, .aload_n 0, 1), (1, .getfield 58, 3), (4, .ifCond .lt (25), 3), (7, .aload_n 0, 1), (8, .getfield 58, 3), (11, .aload_n 0, 1), (12, .getfield 21, 3), (15, .arraylength, 1), (16, .if_icmp .ge (13), 3), (19, .aload_n 0, 1), (20, .getfield 21, 3), (23, .aload_n 0, 1), (24, .getfield 58, 3), (27, .iload_n 1, 1), (28, .bastore, 1), (29, .return_, 1)]
set_option maxRecDepth 200000 in
theorem ru_compare_code_ok : px_code prog_8_method_9_code ru_compare_code = true := by decide +kernel
noncomputable def ru_compare_orc : pC := px_orc []
theorem ru_compare_orc_ok {d : Nat} : px_Or (d + 0) (ru_compare_orc) := px_orc_ok (by
  exact px_o0)
set_option maxRecDepth 200000 in
theorem ru_compare_29_ok {d : Nat} : ∀ (h : pH) (q : Int32 × pH), ru_compare_29 h = some q → px_G (d + 0 + 1) (pX_RX6, prog_8_method_9_code, 2, none) 29 [none, none] [] h q := by
  intro h q e
  exact px_blk_ok (d := d + 0) (M := (pX_RX6, prog_8_method_9_code, 2, none)) (C := ru_compare_orc) (code := ru_compare_code) (ld := []) (kl := []) (ru_compare_orc_ok) pX_ok_RX6 ru_compare_code_ok (px_k0) 21 29 _ _ h q e
set_option maxRecDepth 200000 in
theorem ru_compare_ok {d : Nat} {x1 : Int32} {h : pH} {q : Int32 × pH} (e : ru_compare x1 h = some q) : px_Con (d + 1) 73 [.inr (.inl 17), .inl x1] h q :=
  px_con (X := pX_RX6) (b := prog_8_method_9_code) (nL := 2) (rt := none) rfl rfl (Nat.le_of_ble_eq_true rfl) rfl (px_blk_ok (d := d + 0) (M := (pX_RX6, prog_8_method_9_code, 2, none)) (C := ru_compare_orc) (code := ru_compare_code) (ld := [29]) (kl := [(29, fun ls st h => px_if (px_fit [0, 0] ls && px_fits [] st) (ru_compare_29 h))]) (ru_compare_orc_ok) pX_ok_RX6 ru_compare_code_ok (px_k1 (px_ko (ts := [0, 0]) (ss := []) fun ls st h q e => ru_compare_29_ok _ _ e) px_k0) 21 0 _ _ _ q e)
/-! WordsUnsaid$Rule.isCompared()Z -/
noncomputable def ru_isCompared_36 (s0 : Int32) (h : pH) : pR :=
  px_bz s0 h
noncomputable def ru_isCompared_35 (h : pH) : pR :=
  ru_isCompared_36 (px_c 0) h
noncomputable def ru_isCompared (h : pH) : pR :=
  if (h 17 7) < 0 then
    ru_isCompared_35 h
  else
    if (nI (px_len 21)) ≤ (h 17 7) then
      ru_isCompared_35 h
    else
      px_if (px_ok 1 21 (h 17 7) || px_ok 3 21 (h 17 7)) <|
      if (h 21 (h 17 7).toNatClampNeg) = 0 then
        ru_isCompared_35 h
      else
        ru_isCompared_36 (px_c 1) h
def ru_isCompared_code : pCode := [(0, .aload_n 0, 1), (1, .getfield 58, 3), (4, .ifCond .lt (31), 3), (7, .aload_n 0, 1), (8, .getfield 58, 3), (11, .aload_n 0, 1), (12, .getfield 21, 3), (15, .arraylength, 1), (16, .if_icmp .ge (19), 3), (19, .aload_n 0, 1), (20, .getfield 21, 3), (23, .aload_n 0, 1), (24, .getfield 58, 3), (27, .baload, 1), (28, .ifCond .eq (7), 3), (31, .iconst 1, 1), (32, .goto (4), 3), (35, .iconst 0, 1), (36, .ireturn, 1)]
set_option maxRecDepth 200000 in
theorem ru_isCompared_code_ok : px_code prog_8_method_10_code ru_isCompared_code = true := by decide +kernel
noncomputable def ru_isCompared_orc : pC := px_orc []
theorem ru_isCompared_orc_ok {d : Nat} : px_Or (d + 0) (ru_isCompared_orc) := px_orc_ok (by
  exact px_o0)
set_option maxRecDepth 200000 in
theorem ru_isCompared_36_ok {d : Nat} : ∀ (s0 : Int32) (h : pH) (q : Int32 × pH), ru_isCompared_36 s0 h = some q → px_G (d + 0 + 1) (pX_RX6, prog_8_method_10_code, 1, (some .boolean)) 36 [none] [.inl s0] h q := by
  intro s0 h q e
  exact px_blk_ok (d := d + 0) (M := (pX_RX6, prog_8_method_10_code, 1, (some .boolean))) (C := ru_isCompared_orc) (code := ru_isCompared_code) (ld := []) (kl := []) (ru_isCompared_orc_ok) pX_ok_RX6 ru_isCompared_code_ok (px_k0) 24 36 _ _ h q e
set_option maxRecDepth 200000 in
theorem ru_isCompared_35_ok {d : Nat} : ∀ (h : pH) (q : Int32 × pH), ru_isCompared_35 h = some q → px_G (d + 0 + 1) (pX_RX6, prog_8_method_10_code, 1, (some .boolean)) 35 [none] [] h q := by
  intro h q e
  exact px_blk_ok (d := d + 0) (M := (pX_RX6, prog_8_method_10_code, 1, (some .boolean))) (C := ru_isCompared_orc) (code := ru_isCompared_code) (ld := [36]) (kl := [(36, fun ls st h => px_if (px_fit [0] ls && px_fits [1] st) (ru_isCompared_36 (px_si st 0) h))]) (ru_isCompared_orc_ok) pX_ok_RX6 ru_isCompared_code_ok (px_k1 (px_ko (ts := [0]) (ss := [1]) fun ls st h q e => ru_isCompared_36_ok _ _ _ e) px_k0) 24 35 _ _ h q e
set_option maxRecDepth 200000 in
theorem ru_isCompared_ok {d : Nat} {h : pH} {q : Int32 × pH} (e : ru_isCompared h = some q) : px_Con (d + 1) 74 [.inr (.inl 17)] h q :=
  px_con (X := pX_RX6) (b := prog_8_method_10_code) (nL := 1) (rt := (some .boolean)) rfl rfl (Nat.le_of_ble_eq_true rfl) rfl (px_blk_ok (d := d + 0) (M := (pX_RX6, prog_8_method_10_code, 1, (some .boolean))) (C := ru_isCompared_orc) (code := ru_isCompared_code) (ld := [35, 36]) (kl := [(35, fun ls st h => px_if (px_fit [0] ls && px_fits [] st) (ru_isCompared_35 h)), (36, fun ls st h => px_if (px_fit [0] ls && px_fits [1] st) (ru_isCompared_36 (px_si st 0) h))]) (ru_isCompared_orc_ok) pX_ok_RX6 ru_isCompared_code_ok (px_k1 (px_ko (ts := [0]) (ss := []) fun ls st h q e => ru_isCompared_35_ok _ _ e) (px_k1 (px_ko (ts := [0]) (ss := [1]) fun ls st h q e => ru_isCompared_36_ok _ _ _ e) px_k0)) 24 0 _ _ _ q e)
/-! WordsUnsaid$Rule.readJoint(LWordsUnsaid$Text;)Z -/
noncomputable def ru_readJoint_26 (h : pH) : pR :=
  px_bind (tx_refuse h) fun z1 h2 =>
  px_bz z1 h2
noncomputable def ru_readJoint_41 (x2 : Int32) (x3 : Int32) (h : pH) : pR :=
  px_bind (tx_skip h) fun _ h2 =>
  px_bind (ru_writeWaiting x3 h2) fun _ h4 =>
  px_bind (ru_defer x2 h4) fun _ h6 =>
  px_bz (px_c 1) h6
noncomputable def ru_readJoint_31 (x2 : Int32) (x3 : Int32) (h : pH) : pR :=
  if x3 = (px_c 1) then
    px_bind (ru_compare (px_c 1) h) fun _ h2 =>
    ru_readJoint_41 x2 x3 h2
  else
    ru_readJoint_41 x2 x3 h
noncomputable def ru_readJoint (h : pH) : pR :=
  px_bind (tx_next h) fun z1 h2 =>
  px_bind (ru_bondOf z1 h2) fun z3 h4 =>
  if z3 = 0 then
    ru_readJoint_26 h4
  else
    if z3 = (px_c 1) then
      px_bind (ru_isCompared h4) fun z5 h6 =>
      if z5 = 0 then
        ru_readJoint_31 z1 z3 h6
      else
        ru_readJoint_26 h6
    else
      ru_readJoint_31 z1 z3 h4
def ru_readJoint_code : pCode := [(0, .aload_n 1, 1), (1, .invokevirtual 72, 3), (4, .istore_n 2, 1), (5, .iload_n 2, 1), (6, .invokestatic 111, 3), (9, .istore_n 3, 1), (10, .iload_n 3, 1), (11, .ifCond .eq (15), 3), (14, .iload_n 3, 1), (15, .iconst 1, 1), (16, .if_icmp .ne (15), 3), (19, .aload_n 0, 1), (20, .invokevirtual 115, 3), (23, .ifCond .eq (8), 3), (26, .aload_n 1, 1), (27, .invokevirtual 85, 3), (30, .ireturn, 1), (31, .iload_n 3, 1), (32, .iconst 1, 1), (33, .if_icmp .ne (8), 3), (36, .aload_n 0, 1), (37, .iconst 1, 1), (38, .invokevirtual 61, 3), (41, .aload_n 1, 1), (42, .invokevirtual 108, 3), (45, .aload_n 0, 1), (46, .iload_n 3, 1), (47, .invokevirtual 75, 3), (50, .aload_n 0, 1), (51, .iload_n 2, 1), (52, .invokevirtual 92, 3), (55, .iconst 1, 1), (56, .ireturn, 1)]
set_option maxRecDepth 200000 in
theorem ru_readJoint_code_ok : px_code prog_8_method_6_code ru_readJoint_code = true := by decide +kernel
noncomputable def ru_readJoint_orc : pC := px_orc [(93, fun a h => match a with
    | [.inr (.inl 1)] => tx_refuse h
    | _ => none), (90, fun a h => match a with
    | [.inr (.inl 1)] => tx_skip h
    | _ => none), (77, fun a h => match a with
    | [.inr (.inl 17), .inl v1] => ru_writeWaiting v1 h
    | _ => none), (76, fun a h => match a with
    | [.inr (.inl 17), .inl v1] => ru_defer v1 h
    | _ => none), (73, fun a h => match a with
    | [.inr (.inl 17), .inl v1] => ru_compare v1 h
    | _ => none), (89, fun a h => match a with
    | [.inr (.inl 1)] => tx_next h
    | _ => none), (72, fun a h => match a with
    | [.inl v0] => ru_bondOf v0 h
    | _ => none), (74, fun a h => match a with
    | [.inr (.inl 17)] => ru_isCompared h
    | _ => none)]
theorem ru_readJoint_orc_ok {d : Nat} : px_Or (d + 3) (ru_readJoint_orc) := px_orc_ok (by
  refine px_o1 (fun a h q e => by
    dsimp only at e
    split at e
    · exact tx_refuse_ok (d := d + 2) e
    · cases e) ?_
  refine px_o1 (fun a h q e => by
    dsimp only at e
    split at e
    · exact tx_skip_ok (d := d + 2) e
    · cases e) ?_
  refine px_o1 (fun a h q e => by
    dsimp only at e
    split at e
    · exact ru_writeWaiting_ok (d := d + 0) e
    · cases e) ?_
  refine px_o1 (fun a h q e => by
    dsimp only at e
    split at e
    · exact ru_defer_ok (d := d + 1) e
    · cases e) ?_
  refine px_o1 (fun a h q e => by
    dsimp only at e
    split at e
    · exact ru_compare_ok (d := d + 2) e
    · cases e) ?_
  refine px_o1 (fun a h q e => by
    dsimp only at e
    split at e
    · exact tx_next_ok (d := d + 2) e
    · cases e) ?_
  refine px_o1 (fun a h q e => by
    dsimp only at e
    split at e
    · exact ru_bondOf_ok (d := d + 2) e
    · cases e) ?_
  refine px_o1 (fun a h q e => by
    dsimp only at e
    split at e
    · exact ru_isCompared_ok (d := d + 2) e
    · cases e) ?_
  exact px_o0)
set_option maxRecDepth 200000 in
theorem ru_readJoint_26_ok {d : Nat} : ∀ (h : pH) (q : Int32 × pH), ru_readJoint_26 h = some q → px_G (d + 3 + 1) (pX_RX6, prog_8_method_6_code, 4, (some .boolean)) 26 [none, some (.inr (.inl 1)), none, none] [] h q := by
  intro h q e
  exact px_blk_ok (d := d + 3) (M := (pX_RX6, prog_8_method_6_code, 4, (some .boolean))) (C := ru_readJoint_orc) (code := ru_readJoint_code) (ld := []) (kl := []) (ru_readJoint_orc_ok) pX_ok_RX6 ru_readJoint_code_ok (px_k0) 38 26 _ _ h q e
set_option maxRecDepth 200000 in
theorem ru_readJoint_41_ok {d : Nat} : ∀ (x2 : Int32) (x3 : Int32) (h : pH) (q : Int32 × pH), ru_readJoint_41 x2 x3 h = some q → px_G (d + 3 + 1) (pX_RX6, prog_8_method_6_code, 4, (some .boolean)) 41 [some (.inr (.inl 17)), some (.inr (.inl 1)), some (.inl x2), some (.inl x3)] [] h q := by
  intro x2 x3 h q e
  exact px_blk_ok (d := d + 3) (M := (pX_RX6, prog_8_method_6_code, 4, (some .boolean))) (C := ru_readJoint_orc) (code := ru_readJoint_code) (ld := []) (kl := []) (ru_readJoint_orc_ok) pX_ok_RX6 ru_readJoint_code_ok (px_k0) 38 41 _ _ h q e
set_option maxRecDepth 200000 in
theorem ru_readJoint_31_ok {d : Nat} : ∀ (x2 : Int32) (x3 : Int32) (h : pH) (q : Int32 × pH), ru_readJoint_31 x2 x3 h = some q → px_G (d + 3 + 1) (pX_RX6, prog_8_method_6_code, 4, (some .boolean)) 31 [some (.inr (.inl 17)), some (.inr (.inl 1)), some (.inl x2), some (.inl x3)] [] h q := by
  intro x2 x3 h q e
  exact px_blk_ok (d := d + 3) (M := (pX_RX6, prog_8_method_6_code, 4, (some .boolean))) (C := ru_readJoint_orc) (code := ru_readJoint_code) (ld := [41]) (kl := [(41, fun ls st h => px_if (px_fit [27, 11, 1, 1] ls && px_fits [] st) (ru_readJoint_41 (px_gi ls 2) (px_gi ls 3) h))]) (ru_readJoint_orc_ok) pX_ok_RX6 ru_readJoint_code_ok (px_k1 (px_ko (ts := [27, 11, 1, 1]) (ss := []) fun ls st h q e => ru_readJoint_41_ok _ _ _ _ e) px_k0) 38 31 _ _ h q e
set_option maxRecDepth 200000 in
theorem ru_readJoint_ok {d : Nat} {h : pH} {q : Int32 × pH} (e : ru_readJoint h = some q) : px_Con (d + 4) 70 [.inr (.inl 17), .inr (.inl 1)] h q :=
  px_con (X := pX_RX6) (b := prog_8_method_6_code) (nL := 4) (rt := (some .boolean)) rfl rfl (Nat.le_of_ble_eq_true rfl) rfl (px_blk_ok (d := d + 3) (M := (pX_RX6, prog_8_method_6_code, 4, (some .boolean))) (C := ru_readJoint_orc) (code := ru_readJoint_code) (ld := [31, 26]) (kl := [(31, fun ls st h => px_if (px_fit [27, 11, 1, 1] ls && px_fits [] st) (ru_readJoint_31 (px_gi ls 2) (px_gi ls 3) h)), (26, fun ls st h => px_if (px_fit [0, 11, 0, 0] ls && px_fits [] st) (ru_readJoint_26 h))]) (ru_readJoint_orc_ok) pX_ok_RX6 ru_readJoint_code_ok (px_k1 (px_ko (ts := [27, 11, 1, 1]) (ss := []) fun ls st h q e => ru_readJoint_31_ok _ _ _ _ e) (px_k1 (px_ko (ts := [0, 11, 0, 0]) (ss := []) fun ls st h q e => ru_readJoint_26_ok _ _ e) px_k0)) 38 0 _ _ _ q e)
/-! WordsUnsaid$Rule.isLetter(I)Z -/
noncomputable def ru_isLetter (x0 : Int32) (h : pH) : pR :=
  if x0 = px_c 105 then
    px_bz (px_c 1) h
  else
  if x0 = px_c 106 then
    px_bz (px_c 0) h
  else
  if x0 = px_c 107 then
    px_bz (px_c 0) h
  else
  if x0 = px_c 108 then
    px_bz (px_c 0) h
  else
  if x0 = px_c 109 then
    px_bz (px_c 0) h
  else
  if x0 = px_c 110 then
    px_bz (px_c 1) h
  else
  if x0 = px_c 111 then
    px_bz (px_c 1) h
  else
  if x0 = px_c 112 then
    px_bz (px_c 1) h
  else
  if x0 = px_c 113 then
    px_bz (px_c 0) h
  else
  if x0 = px_c 114 then
    px_bz (px_c 0) h
  else
  if x0 = px_c 115 then
    px_bz (px_c 0) h
  else
  if x0 = px_c 116 then
    px_bz (px_c 1) h
  else
  if x0 = px_c 117 then
    px_bz (px_c 0) h
  else
  if x0 = px_c 118 then
    px_bz (px_c 0) h
  else
  if x0 = px_c 119 then
    px_bz (px_c 1) h
  else
  if x0 = px_c 120 then
    px_bz (px_c 0) h
  else
  if x0 = px_c 121 then
    px_bz (px_c 1) h
  else
    px_bz (px_c 0) h
def ru_isLetter_code : pCode := [(0, .iload_n 0, 1), (1, .tableswitch (85) (105) (121) #[83, 85, 85, 85, 85, 83, 83, 83, 85, 85, 85, 83, 85, 85, 83, 85, 83], 83), (84, .iconst 1, 1), (85, .ireturn, 1), (86, .iconst 0, 1), (87, .ireturn, 1)]
set_option maxRecDepth 200000 in
theorem ru_isLetter_code_ok : px_code prog_8_method_7_code ru_isLetter_code = true := by decide +kernel
noncomputable def ru_isLetter_orc : pC := px_orc []
theorem ru_isLetter_orc_ok {d : Nat} : px_Or (d + 0) (ru_isLetter_orc) := px_orc_ok (by
  exact px_o0)
set_option maxRecDepth 200000 in
theorem ru_isLetter_ok {d : Nat} {x0 : Int32} {h : pH} {q : Int32 × pH} (e : ru_isLetter x0 h = some q) : px_Con (d + 1) 71 [.inl x0] h q :=
  px_con (X := pX_RX6) (b := prog_8_method_7_code) (nL := 1) (rt := (some .boolean)) rfl rfl (Nat.le_of_ble_eq_true rfl) rfl (px_blk_ok (d := d + 0) (M := (pX_RX6, prog_8_method_7_code, 1, (some .boolean))) (C := ru_isLetter_orc) (code := ru_isLetter_code) (ld := []) (kl := []) (ru_isLetter_orc_ok) pX_ok_RX6 ru_isLetter_code_ok (px_k0) 11 0 _ _ _ q e)
/-! WordsUnsaid$Rule.readThing(LWordsUnsaid$Text;)Z -/
noncomputable def ru_readThing_71 (h : pH) : pR :=
  px_bind (tx_isDigit h) fun z1 h2 =>
  if z1 = 0 then
    px_bind (tx_next h2) fun z3 h4 =>
    px_bind (ru_isLetter z3 h4) fun z5 h6 =>
    if z5 = 0 then
      px_bind (tx_refuse h6) fun z7 h8 =>
      px_bz z7 h8
    else
      px_bind (tx_skip h6) fun _ h10 =>
      px_bind (ru_write (-z3) h10) fun _ h12 =>
      px_bz (px_c 1) h12
  else
    px_bind (tx_number (px_c 3) (px_c 0) (px_c 999) h2) fun z13 h14 =>
    px_bind (ru_write z13 h14) fun _ h16 =>
    px_bz (px_c 1) h16
noncomputable def ru_readThing_65 (r2 : Int32 → pH → pR) (x2 : Int32) (h : pH) : pR :=
  r2 (x2 + px_c 1) h
noncomputable def ru_readThing_2 : Nat → Int32 → pH → pR
  | 0, _, _ => none
  | n + 1, x2, h =>
    if (px_c 40) ≤ x2 then
      ru_readThing_71 h
    else
      px_bind (tx_meet (px_c 45) h) fun z1 h2 =>
      if z1 = 0 then
        if (px_c 4) ≤ (h2 17 7) then
          ru_readThing_71 h2
        else
          px_bind (tx_meet (px_c 40) h2) fun z3 h4 =>
          if z3 = 0 then
            ru_readThing_71 h4
          else
            px_bind (ru_defer (px_c 40) h4) fun _ h6 =>
            let h7 := px_w h6 17 7 ((h6 17 7) + (px_c 1))
            px_bind (ru_compare (px_c 0) h7) fun _ h9 =>
            ru_readThing_65 (ru_readThing_2 n) x2 h9
      else
        px_bind (ru_defer (px_c 256) h2) fun _ h11 =>
        ru_readThing_65 (ru_readThing_2 n) x2 h11
noncomputable def ru_readThing (h : pH) : pR :=
  ru_readThing_2 px_F (px_c 0) h
def ru_readThing_code : pCode := [(0, .iconst 0, 1), (1, .istore_n 2, 1), (2, .iload_n 2, 1), (3, .bipush (40), 2), (5, .if_icmp .ge (66), 3), (8, .aload_n 1, 1), (9, .bipush (45), 2), (11, .invokevirtual 88, 3), (14, .ifCond .eq (13), 3), (17, .aload_n 0, 1), (18, .sipush (256), 3), (21, .invokevirtual 92, 3), (24, .goto (41), 3), (27, .aload_n 0, 1), (28, .getfield 58, 3), (31, .iconst 4, 1), (32, .if_icmp .ge (39), 3), (35, .aload_n 1, 1), (36, .bipush (40), 2), (38, .invokevirtual 88, 3), (41, .ifCond .eq (30), 3), (44, .aload_n 0, 1), (45, .bipush (40), 2), (47, .invokevirtual 92, 3), (50, .aload_n 0, 1), (51, .dup, 1), (52, .getfield 58, 3), (55, .iconst 1, 1), (56, .iadd, 1), (57, .putfield 58, 3), (60, .aload_n 0, 1), (61, .iconst 0, 1), (62, .invokevirtual 61, 3), (65, .iinc 2 (1), 3), (68, .goto (-66), 3), (71, .aload_n 1, 1), (72, .invokevirtual 95, 3), (75, .ifCond .eq (18), 3), (78, .aload_n 0, 1), (79, .aload_n 1, 1), (80, .iconst 3, 1), (81, .iconst 0, 1), (82, .sipush (999), 3), (85, .invokevirtual 98, 3), (88, .invokevirtual 102, 3), (91, .iconst 1, 1), (92, .ireturn, 1), (93, .aload_n 1, 1), (94, .invokevirtual 72, 3), (97, .istore_n 2, 1), (98, .iload_n 2, 1), (99, .invokestatic 105, 3), (102, .ifCond .ne (8), 3), (105, .aload_n 1, 1), (106, .invokevirtual 85, 3), (109, .ireturn, 1), (110, .aload_n 1, 1), (111, .invokevirtual 108, 3), (114, .aload_n 0, 1), (115, .iload_n 2, 1), (116, .ineg, 1), (117, .invokevirtual 102, 3), (120, .iconst 1, 1), (121, .ireturn, 1)]
set_option maxRecDepth 200000 in
theorem ru_readThing_code_ok : px_code prog_8_method_4_code ru_readThing_code = true := by decide +kernel
noncomputable def ru_readThing_orc : pC := px_orc [(97, fun a h => match a with
    | [.inr (.inl 1)] => tx_isDigit h
    | _ => none), (89, fun a h => match a with
    | [.inr (.inl 1)] => tx_next h
    | _ => none), (71, fun a h => match a with
    | [.inl v0] => ru_isLetter v0 h
    | _ => none), (93, fun a h => match a with
    | [.inr (.inl 1)] => tx_refuse h
    | _ => none), (90, fun a h => match a with
    | [.inr (.inl 1)] => tx_skip h
    | _ => none), (75, fun a h => match a with
    | [.inr (.inl 17), .inl v1] => ru_write v1 h
    | _ => none), (98, fun a h => match a with
    | [.inr (.inl 1), .inl v1, .inl v2, .inl v3] => tx_number v1 v2 v3 h
    | _ => none), (91, fun a h => match a with
    | [.inr (.inl 1), .inl v1] => tx_meet v1 h
    | _ => none), (76, fun a h => match a with
    | [.inr (.inl 17), .inl v1] => ru_defer v1 h
    | _ => none), (73, fun a h => match a with
    | [.inr (.inl 17), .inl v1] => ru_compare v1 h
    | _ => none)]
theorem ru_readThing_orc_ok {d : Nat} : px_Or (d + 3) (ru_readThing_orc) := px_orc_ok (by
  refine px_o1 (fun a h q e => by
    dsimp only at e
    split at e
    · exact tx_isDigit_ok (d := d + 1) e
    · cases e) ?_
  refine px_o1 (fun a h q e => by
    dsimp only at e
    split at e
    · exact tx_next_ok (d := d + 2) e
    · cases e) ?_
  refine px_o1 (fun a h q e => by
    dsimp only at e
    split at e
    · exact ru_isLetter_ok (d := d + 2) e
    · cases e) ?_
  refine px_o1 (fun a h q e => by
    dsimp only at e
    split at e
    · exact tx_refuse_ok (d := d + 2) e
    · cases e) ?_
  refine px_o1 (fun a h q e => by
    dsimp only at e
    split at e
    · exact tx_skip_ok (d := d + 2) e
    · cases e) ?_
  refine px_o1 (fun a h q e => by
    dsimp only at e
    split at e
    · exact ru_write_ok (d := d + 1) e
    · cases e) ?_
  refine px_o1 (fun a h q e => by
    dsimp only at e
    split at e
    · exact tx_number_ok (d := d + 0) e
    · cases e) ?_
  refine px_o1 (fun a h q e => by
    dsimp only at e
    split at e
    · exact tx_meet_ok (d := d + 1) e
    · cases e) ?_
  refine px_o1 (fun a h q e => by
    dsimp only at e
    split at e
    · exact ru_defer_ok (d := d + 1) e
    · cases e) ?_
  refine px_o1 (fun a h q e => by
    dsimp only at e
    split at e
    · exact ru_compare_ok (d := d + 2) e
    · cases e) ?_
  exact px_o0)
set_option maxRecDepth 200000 in
theorem ru_readThing_71_ok {d : Nat} : ∀ (h : pH) (q : Int32 × pH), ru_readThing_71 h = some q → px_G (d + 3 + 1) (pX_RX6, prog_8_method_4_code, 3, (some .boolean)) 71 [some (.inr (.inl 17)), some (.inr (.inl 1)), none] [] h q := by
  intro h q e
  exact px_blk_ok (d := d + 3) (M := (pX_RX6, prog_8_method_4_code, 3, (some .boolean))) (C := ru_readThing_orc) (code := ru_readThing_code) (ld := []) (kl := []) (ru_readThing_orc_ok) pX_ok_RX6 ru_readThing_code_ok (px_k0) 69 71 _ _ h q e
set_option maxRecDepth 200000 in
theorem ru_readThing_65_ok {d : Nat} {r2 : Int32 → pH → pR} (hr2 : ∀ (x2 : Int32) (h : pH) (q : Int32 × pH), r2 x2 h = some q → px_G (d + 3 + 1) (pX_RX6, prog_8_method_4_code, 3, (some .boolean)) 2 [some (.inr (.inl 17)), some (.inr (.inl 1)), some (.inl x2)] [] h q) : ∀ (x2 : Int32) (h : pH) (q : Int32 × pH), ru_readThing_65 r2 x2 h = some q → px_G (d + 3 + 1) (pX_RX6, prog_8_method_4_code, 3, (some .boolean)) 65 [some (.inr (.inl 17)), some (.inr (.inl 1)), some (.inl x2)] [] h q := by
  intro x2 h q e
  exact px_blk_ok (d := d + 3) (M := (pX_RX6, prog_8_method_4_code, 3, (some .boolean))) (C := ru_readThing_orc) (code := ru_readThing_code) (ld := [2]) (kl := [(2, fun ls st h => px_if (px_fit [27, 11, 1] ls && px_fits [] st) (r2 (px_gi ls 2) h))]) (ru_readThing_orc_ok) pX_ok_RX6 ru_readThing_code_ok (px_k1 (px_ko (ts := [27, 11, 1]) (ss := []) fun ls st h q e => hr2 _ _ _ e) px_k0) 69 65 _ _ h q e
set_option maxRecDepth 200000 in
theorem ru_readThing_2_ok {d : Nat} : ∀ (n : Nat) (x2 : Int32) (h : pH) (q : Int32 × pH), ru_readThing_2 n x2 h = some q → px_G (d + 3 + 1) (pX_RX6, prog_8_method_4_code, 3, (some .boolean)) 2 [some (.inr (.inl 17)), some (.inr (.inl 1)), some (.inl x2)] [] h q := by
  intro n
  induction n with
  | zero =>
    intro x2 h q e
    cases e
  | succ n ih =>
    intro x2 h q e
    exact px_blk_ok (d := d + 3) (M := (pX_RX6, prog_8_method_4_code, 3, (some .boolean))) (C := ru_readThing_orc) (code := ru_readThing_code) (ld := [65, 71]) (kl := [(65, fun ls st h => px_if (px_fit [27, 11, 1] ls && px_fits [] st) (ru_readThing_65 (ru_readThing_2 n) (px_gi ls 2) h)), (71, fun ls st h => px_if (px_fit [27, 11, 0] ls && px_fits [] st) (ru_readThing_71 h))]) (ru_readThing_orc_ok) pX_ok_RX6 ru_readThing_code_ok (px_k1 (px_ko (ts := [27, 11, 1]) (ss := []) fun ls st h q e => ru_readThing_65_ok ih _ _ _ e) (px_k1 (px_ko (ts := [27, 11, 0]) (ss := []) fun ls st h q e => ru_readThing_71_ok _ _ e) px_k0)) 69 2 _ _ h q e
set_option maxRecDepth 200000 in
theorem ru_readThing_ok {d : Nat} {h : pH} {q : Int32 × pH} (e : ru_readThing h = some q) : px_Con (d + 4) 68 [.inr (.inl 17), .inr (.inl 1)] h q :=
  px_con (X := pX_RX6) (b := prog_8_method_4_code) (nL := 3) (rt := (some .boolean)) rfl rfl (Nat.le_of_ble_eq_true rfl) rfl (px_blk_ok (d := d + 3) (M := (pX_RX6, prog_8_method_4_code, 3, (some .boolean))) (C := ru_readThing_orc) (code := ru_readThing_code) (ld := [2]) (kl := [(2, fun ls st h => px_if (px_fit [27, 11, 1] ls && px_fits [] st) (ru_readThing_2 px_F (px_gi ls 2) h))]) (ru_readThing_orc_ok) pX_ok_RX6 ru_readThing_code_ok (px_k1 (px_ko (ts := [27, 11, 1]) (ss := []) fun ls st h q e => ru_readThing_2_ok _ _ _ _ e) px_k0) 69 0 _ _ _ q e)
/-! WordsUnsaid$Rule.closeParentheses(LWordsUnsaid$Text;)V -/
noncomputable def ru_closeParentheses_61 (h : pH) : pR :=
  some (0, h)
noncomputable def ru_closeParentheses_45 (r2 : Int32 → pH → pR) (x2 : Int32) (h : pH) : pR :=
  let h1 := px_w h 17 7 ((h 17 7) - (px_c 1))
  r2 (x2 + px_c 1) h1
noncomputable def ru_closeParentheses_2 : Nat → Int32 → pH → pR
  | 0, _, _ => none
  | n + 1, x2, h =>
    if (px_c 4) ≤ x2 then
      ru_closeParentheses_61 h
    else
      if (h 17 7) ≤ 0 then
        ru_closeParentheses_61 h
      else
        px_bind (tx_meet (px_c 41) h) fun z1 h2 =>
        if z1 = 0 then
          ru_closeParentheses_61 h2
        else
          px_bind (ru_writeWaiting (px_c 1) h2) fun _ h4 =>
          if (h4 17 6) ≤ 0 then
            ru_closeParentheses_45 (ru_closeParentheses_2 n) x2 h4
          else
            let h5 := px_w h4 17 6 ((h4 17 6) - (px_c 1))
            ru_closeParentheses_45 (ru_closeParentheses_2 n) x2 h5
noncomputable def ru_closeParentheses (h : pH) : pR :=
  ru_closeParentheses_2 px_F (px_c 0) h
def ru_closeParentheses_code : pCode := [(0, .iconst 0, 1), (1, .istore_n 2, 1), (2, .iload_n 2, 1), (3, .iconst 4, 1), (4, .if_icmp .ge (57), 3), (7, .aload_n 0, 1), (8, .getfield 58, 3), (11, .ifCond .le (50), 3), (14, .aload_n 1, 1), (15, .bipush (41), 2), (17, .invokevirtual 88, 3), (20, .ifCond .eq (41), 3), (23, .aload_n 0, 1), (24, .iconst 1, 1), (25, .invokevirtual 75, 3), (28, .aload_n 0, 1), (29, .getfield 55, 3), (32, .ifCond .le (13), 3), (35, .aload_n 0, 1), (36, .dup, 1), (37, .getfield 55, 3), (40, .iconst 1, 1), (41, .isub, 1), (42, .putfield 55, 3), (45, .aload_n 0, 1), (46, .dup, 1), (47, .getfield 58, 3), (50, .iconst 1, 1), (51, .isub, 1), (52, .putfield 58, 3), (55, .iinc 2 (1), 3), (58, .goto (-56), 3), (61, .return_, 1)]
set_option maxRecDepth 200000 in
theorem ru_closeParentheses_code_ok : px_code prog_8_method_5_code ru_closeParentheses_code = true := by decide +kernel
noncomputable def ru_closeParentheses_orc : pC := px_orc [(91, fun a h => match a with
    | [.inr (.inl 1), .inl v1] => tx_meet v1 h
    | _ => none), (77, fun a h => match a with
    | [.inr (.inl 17), .inl v1] => ru_writeWaiting v1 h
    | _ => none)]
theorem ru_closeParentheses_orc_ok {d : Nat} : px_Or (d + 3) (ru_closeParentheses_orc) := px_orc_ok (by
  refine px_o1 (fun a h q e => by
    dsimp only at e
    split at e
    · exact tx_meet_ok (d := d + 1) e
    · cases e) ?_
  refine px_o1 (fun a h q e => by
    dsimp only at e
    split at e
    · exact ru_writeWaiting_ok (d := d + 0) e
    · cases e) ?_
  exact px_o0)
set_option maxRecDepth 200000 in
theorem ru_closeParentheses_61_ok {d : Nat} : ∀ (h : pH) (q : Int32 × pH), ru_closeParentheses_61 h = some q → px_G (d + 3 + 1) (pX_RX6, prog_8_method_5_code, 3, none) 61 [none, none, none] [] h q := by
  intro h q e
  exact px_blk_ok (d := d + 3) (M := (pX_RX6, prog_8_method_5_code, 3, none)) (C := ru_closeParentheses_orc) (code := ru_closeParentheses_code) (ld := []) (kl := []) (ru_closeParentheses_orc_ok) pX_ok_RX6 ru_closeParentheses_code_ok (px_k0) 38 61 _ _ h q e
set_option maxRecDepth 200000 in
theorem ru_closeParentheses_45_ok {d : Nat} {r2 : Int32 → pH → pR} (hr2 : ∀ (x2 : Int32) (h : pH) (q : Int32 × pH), r2 x2 h = some q → px_G (d + 3 + 1) (pX_RX6, prog_8_method_5_code, 3, none) 2 [some (.inr (.inl 17)), some (.inr (.inl 1)), some (.inl x2)] [] h q) : ∀ (x2 : Int32) (h : pH) (q : Int32 × pH), ru_closeParentheses_45 r2 x2 h = some q → px_G (d + 3 + 1) (pX_RX6, prog_8_method_5_code, 3, none) 45 [some (.inr (.inl 17)), some (.inr (.inl 1)), some (.inl x2)] [] h q := by
  intro x2 h q e
  exact px_blk_ok (d := d + 3) (M := (pX_RX6, prog_8_method_5_code, 3, none)) (C := ru_closeParentheses_orc) (code := ru_closeParentheses_code) (ld := [2]) (kl := [(2, fun ls st h => px_if (px_fit [27, 11, 1] ls && px_fits [] st) (r2 (px_gi ls 2) h))]) (ru_closeParentheses_orc_ok) pX_ok_RX6 ru_closeParentheses_code_ok (px_k1 (px_ko (ts := [27, 11, 1]) (ss := []) fun ls st h q e => hr2 _ _ _ e) px_k0) 38 45 _ _ h q e
set_option maxRecDepth 200000 in
theorem ru_closeParentheses_2_ok {d : Nat} : ∀ (n : Nat) (x2 : Int32) (h : pH) (q : Int32 × pH), ru_closeParentheses_2 n x2 h = some q → px_G (d + 3 + 1) (pX_RX6, prog_8_method_5_code, 3, none) 2 [some (.inr (.inl 17)), some (.inr (.inl 1)), some (.inl x2)] [] h q := by
  intro n
  induction n with
  | zero =>
    intro x2 h q e
    cases e
  | succ n ih =>
    intro x2 h q e
    exact px_blk_ok (d := d + 3) (M := (pX_RX6, prog_8_method_5_code, 3, none)) (C := ru_closeParentheses_orc) (code := ru_closeParentheses_code) (ld := [45, 61]) (kl := [(45, fun ls st h => px_if (px_fit [27, 11, 1] ls && px_fits [] st) (ru_closeParentheses_45 (ru_closeParentheses_2 n) (px_gi ls 2) h)), (61, fun ls st h => px_if (px_fit [0, 0, 0] ls && px_fits [] st) (ru_closeParentheses_61 h))]) (ru_closeParentheses_orc_ok) pX_ok_RX6 ru_closeParentheses_code_ok (px_k1 (px_ko (ts := [27, 11, 1]) (ss := []) fun ls st h q e => ru_closeParentheses_45_ok ih _ _ _ e) (px_k1 (px_ko (ts := [0, 0, 0]) (ss := []) fun ls st h q e => ru_closeParentheses_61_ok _ _ e) px_k0)) 38 2 _ _ h q e
set_option maxRecDepth 200000 in
theorem ru_closeParentheses_ok {d : Nat} {h : pH} {q : Int32 × pH} (e : ru_closeParentheses h = some q) : px_Con (d + 4) 69 [.inr (.inl 17), .inr (.inl 1)] h q :=
  px_con (X := pX_RX6) (b := prog_8_method_5_code) (nL := 3) (rt := none) rfl rfl (Nat.le_of_ble_eq_true rfl) rfl (px_blk_ok (d := d + 3) (M := (pX_RX6, prog_8_method_5_code, 3, none)) (C := ru_closeParentheses_orc) (code := ru_closeParentheses_code) (ld := [2]) (kl := [(2, fun ls st h => px_if (px_fit [27, 11, 1] ls && px_fits [] st) (ru_closeParentheses_2 px_F (px_gi ls 2) h))]) (ru_closeParentheses_orc_ok) pX_ok_RX6 ru_closeParentheses_code_ok (px_k1 (px_ko (ts := [27, 11, 1]) (ss := []) fun ls st h q e => ru_closeParentheses_2_ok _ _ _ _ e) px_k0) 38 0 _ _ _ q e)
/-! WordsUnsaid$Rule.readExpression(LWordsUnsaid$Text;)Z -/
noncomputable def ru_readExpression_69 (r23 : Int32 → pH → pR) (x2 : Int32) (h : pH) : pR :=
  px_bind (ru_readJoint h) fun z1 h2 =>
  if z1 = 0 then
    px_bz (px_c 0) h2
  else
    r23 (x2 + px_c 1) h2
noncomputable def ru_readExpression_23 : Nat → Int32 → pH → pR
  | 0, _, _ => none
  | n + 1, x2, h =>
    if (px_c 40) < x2 then
      px_bind (tx_refuse h) fun z1 h2 =>
      px_bz z1 h2
    else
      px_bind (ru_readThing h) fun z3 h4 =>
      if z3 = 0 then
        px_bz (px_c 0) h4
      else
        px_bind (ru_closeParentheses h4) fun _ h6 =>
        if (h6 17 7) = 0 then
          px_bind (tx_next h6) fun z7 h8 =>
          if z7 = (px_c (-1)) then
            px_bind (ru_writeWaiting (px_c 0) h8) fun _ h10 =>
            px_bind (tx_closes h10) fun z11 h12 =>
            px_bz z11 h12
          else
            ru_readExpression_69 (ru_readExpression_23 n) x2 h8
        else
          ru_readExpression_69 (ru_readExpression_23 n) x2 h6
noncomputable def ru_readExpression (h : pH) : pR :=
  px_bind (tx_open (px_c 40) h) fun _ h2 =>
  let h3 := px_w h2 17 6 (px_c 0)
  let h4 := px_w h3 17 7 (px_c 0)
  px_bind (ru_compare (px_c 0) h4) fun _ h6 =>
  ru_readExpression_23 px_F (px_c 0) h6
def ru_readExpression_code : pCode := [(0, .aload_n 1, 1), (1, .bipush (40), 2), (3, .invokevirtual 51, 3), (6, .aload_n 0, 1), (7, .iconst 0, 1), (8, .putfield 55, 3), (11, .aload_n 0, 1), (12, .iconst 0, 1), (13, .putfield 58, 3), (16, .aload_n 0, 1), (17, .iconst 0, 1), (18, .invokevirtual 61, 3), (21, .iconst 0, 1), (22, .istore_n 2, 1), (23, .iload_n 2, 1), (24, .bipush (40), 2), (26, .if_icmp .gt (59), 3), (29, .aload_n 0, 1), (30, .aload_n 1, 1), (31, .invokevirtual 65, 3), (34, .ifCond .ne (5), 3), (37, .iconst 0, 1), (38, .ireturn, 1), (39, .aload_n 0, 1), (40, .aload_n 1, 1), (41, .invokevirtual 68, 3), (44, .aload_n 0, 1), (45, .getfield 58, 3), (48, .ifCond .ne (21), 3), (51, .aload_n 1, 1), (52, .invokevirtual 72, 3), (55, .iconst (-1), 1), (56, .if_icmp .ne (13), 3), (59, .aload_n 0, 1), (60, .iconst 0, 1), (61, .invokevirtual 75, 3), (64, .aload_n 1, 1), (65, .invokevirtual 78, 3), (68, .ireturn, 1), (69, .aload_n 0, 1), (70, .aload_n 1, 1), (71, .invokevirtual 82, 3), (74, .ifCond .ne (5), 3), (77, .iconst 0, 1), (78, .ireturn, 1), (79, .iinc 2 (1), 3), (82, .goto (-59), 3), (85, .aload_n 1, 1), (86, .invokevirtual 85, 3), (89, .ireturn, 1)]
set_option maxRecDepth 200000 in
theorem ru_readExpression_code_ok : px_code prog_8_method_3_code ru_readExpression_code = true := by decide +kernel
noncomputable def ru_readExpression_orc : pC := px_orc [(70, fun a h => match a with
    | [.inr (.inl 17), .inr (.inl 1)] => ru_readJoint h
    | _ => none), (93, fun a h => match a with
    | [.inr (.inl 1)] => tx_refuse h
    | _ => none), (68, fun a h => match a with
    | [.inr (.inl 17), .inr (.inl 1)] => ru_readThing h
    | _ => none), (69, fun a h => match a with
    | [.inr (.inl 17), .inr (.inl 1)] => ru_closeParentheses h
    | _ => none), (89, fun a h => match a with
    | [.inr (.inl 1)] => tx_next h
    | _ => none), (77, fun a h => match a with
    | [.inr (.inl 17), .inl v1] => ru_writeWaiting v1 h
    | _ => none), (96, fun a h => match a with
    | [.inr (.inl 1)] => tx_closes h
    | _ => none), (88, fun a h => match a with
    | [.inr (.inl 1), .inl v1] => tx_open v1 h
    | _ => none), (73, fun a h => match a with
    | [.inr (.inl 17), .inl v1] => ru_compare v1 h
    | _ => none)]
theorem ru_readExpression_orc_ok {d : Nat} : px_Or (d + 4) (ru_readExpression_orc) := px_orc_ok (by
  refine px_o1 (fun a h q e => by
    dsimp only at e
    split at e
    · exact ru_readJoint_ok (d := d + 0) e
    · cases e) ?_
  refine px_o1 (fun a h q e => by
    dsimp only at e
    split at e
    · exact tx_refuse_ok (d := d + 3) e
    · cases e) ?_
  refine px_o1 (fun a h q e => by
    dsimp only at e
    split at e
    · exact ru_readThing_ok (d := d + 0) e
    · cases e) ?_
  refine px_o1 (fun a h q e => by
    dsimp only at e
    split at e
    · exact ru_closeParentheses_ok (d := d + 0) e
    · cases e) ?_
  refine px_o1 (fun a h q e => by
    dsimp only at e
    split at e
    · exact tx_next_ok (d := d + 3) e
    · cases e) ?_
  refine px_o1 (fun a h q e => by
    dsimp only at e
    split at e
    · exact ru_writeWaiting_ok (d := d + 1) e
    · cases e) ?_
  refine px_o1 (fun a h q e => by
    dsimp only at e
    split at e
    · exact tx_closes_ok (d := d + 2) e
    · cases e) ?_
  refine px_o1 (fun a h q e => by
    dsimp only at e
    split at e
    · exact tx_open_ok (d := d + 3) e
    · cases e) ?_
  refine px_o1 (fun a h q e => by
    dsimp only at e
    split at e
    · exact ru_compare_ok (d := d + 3) e
    · cases e) ?_
  exact px_o0)
set_option maxRecDepth 200000 in
theorem ru_readExpression_69_ok {d : Nat} {r23 : Int32 → pH → pR} (hr23 : ∀ (x2 : Int32) (h : pH) (q : Int32 × pH), r23 x2 h = some q → px_G (d + 4 + 1) (pX_RX6, prog_8_method_3_code, 3, (some .boolean)) 23 [some (.inr (.inl 17)), some (.inr (.inl 1)), some (.inl x2)] [] h q) : ∀ (x2 : Int32) (h : pH) (q : Int32 × pH), ru_readExpression_69 r23 x2 h = some q → px_G (d + 4 + 1) (pX_RX6, prog_8_method_3_code, 3, (some .boolean)) 69 [some (.inr (.inl 17)), some (.inr (.inl 1)), some (.inl x2)] [] h q := by
  intro x2 h q e
  exact px_blk_ok (d := d + 4) (M := (pX_RX6, prog_8_method_3_code, 3, (some .boolean))) (C := ru_readExpression_orc) (code := ru_readExpression_code) (ld := [23]) (kl := [(23, fun ls st h => px_if (px_fit [27, 11, 1] ls && px_fits [] st) (r23 (px_gi ls 2) h))]) (ru_readExpression_orc_ok) pX_ok_RX6 ru_readExpression_code_ok (px_k1 (px_ko (ts := [27, 11, 1]) (ss := []) fun ls st h q e => hr23 _ _ _ e) px_k0) 55 69 _ _ h q e
set_option maxRecDepth 200000 in
theorem ru_readExpression_23_ok {d : Nat} : ∀ (n : Nat) (x2 : Int32) (h : pH) (q : Int32 × pH), ru_readExpression_23 n x2 h = some q → px_G (d + 4 + 1) (pX_RX6, prog_8_method_3_code, 3, (some .boolean)) 23 [some (.inr (.inl 17)), some (.inr (.inl 1)), some (.inl x2)] [] h q := by
  intro n
  induction n with
  | zero =>
    intro x2 h q e
    cases e
  | succ n ih =>
    intro x2 h q e
    exact px_blk_ok (d := d + 4) (M := (pX_RX6, prog_8_method_3_code, 3, (some .boolean))) (C := ru_readExpression_orc) (code := ru_readExpression_code) (ld := [69]) (kl := [(69, fun ls st h => px_if (px_fit [27, 11, 1] ls && px_fits [] st) (ru_readExpression_69 (ru_readExpression_23 n) (px_gi ls 2) h))]) (ru_readExpression_orc_ok) pX_ok_RX6 ru_readExpression_code_ok (px_k1 (px_ko (ts := [27, 11, 1]) (ss := []) fun ls st h q e => ru_readExpression_69_ok ih _ _ _ e) px_k0) 55 23 _ _ h q e
set_option maxRecDepth 200000 in
theorem ru_readExpression_ok {d : Nat} {h : pH} {q : Int32 × pH} (e : ru_readExpression h = some q) : px_Con (d + 5) 67 [.inr (.inl 17), .inr (.inl 1)] h q :=
  px_con (X := pX_RX6) (b := prog_8_method_3_code) (nL := 3) (rt := (some .boolean)) rfl rfl (Nat.le_of_ble_eq_true rfl) rfl (px_blk_ok (d := d + 4) (M := (pX_RX6, prog_8_method_3_code, 3, (some .boolean))) (C := ru_readExpression_orc) (code := ru_readExpression_code) (ld := [23]) (kl := [(23, fun ls st h => px_if (px_fit [27, 11, 1] ls && px_fits [] st) (ru_readExpression_23 px_F (px_gi ls 2) h))]) (ru_readExpression_orc_ok) pX_ok_RX6 ru_readExpression_code_ok (px_k1 (px_ko (ts := [27, 11, 1]) (ss := []) fun ls st h q e => ru_readExpression_23_ok _ _ _ _ e) px_k0) 55 0 _ _ _ q e)
/-! WordsUnsaid$Rule.read(LWordsUnsaid$Text;)I -/
noncomputable def ru_read_35 : Nat → Int32 → pH → pR
  | 0, _, _ => none
  | n + 1, x2, h =>
    if (h 17 4) ≤ x2 then
      some (px_c 0, h)
    else
      px_bind (wu_at 19 x2 h) fun z1 h2 =>
      px_bind (wu_put 18 x2 z1 h2) fun _ h4 =>
      ru_read_35 n (x2 + px_c 1) h4
noncomputable def ru_read_25 (h : pH) : pR :=
  let h1 := px_w h 17 4 (h 17 5)
  ru_read_35 px_F (px_c 0) h1
noncomputable def ru_read (h : pH) : pR :=
  let h1 := px_w h 17 5 (px_c 0)
  if (h1 1 1) ≤ 0 then
    ru_read_25 h1
  else
    px_bind (ru_readExpression h1) fun z2 h3 =>
    if z2 = 0 then
      px_bind (tx_answer h3) fun z4 h5 =>
      some (z4, h5)
    else
      ru_read_25 h3
def ru_read_code : pCode := [(0, .aload_n 0, 1), (1, .iconst 0, 1), (2, .putfield 25, 3), (5, .aload_n 1, 1), (6, .getfield 29, 3), (9, .ifCond .le (16), 3), (12, .aload_n 0, 1), (13, .aload_n 1, 1), (14, .invokevirtual 34, 3), (17, .ifCond .ne (8), 3), (20, .aload_n 1, 1), (21, .invokevirtual 38, 3), (24, .ireturn, 1), (25, .aload_n 0, 1), (26, .aload_n 0, 1), (27, .getfield 25, 3), (30, .putfield 42, 3), (33, .iconst 0, 1), (34, .istore_n 2, 1), (35, .iload_n 2, 1), (36, .aload_n 0, 1), (37, .getfield 42, 3), (40, .if_icmp .ge (25), 3), (43, .aload_n 0, 1), (44, .getfield 11, 3), (47, .iload_n 2, 1), (48, .aload_n 0, 1), (49, .getfield 15, 3), (52, .iload_n 2, 1), (53, .invokestatic 43, 3), (56, .invokestatic 47, 3), (59, .iinc 2 (1), 3), (62, .goto (-27), 3), (65, .iconst 0, 1), (66, .ireturn, 1)]
set_option maxRecDepth 200000 in
theorem ru_read_code_ok : px_code prog_8_method_2_code ru_read_code = true := by decide +kernel
noncomputable def ru_read_orc : pC := px_orc [(158, fun a h => match a with
    | [.inr (.inl v0), .inl v1] => wu_at v0 v1 h
    | _ => none), (159, fun a h => match a with
    | [.inr (.inl v0), .inl v1, .inl v2] => wu_put v0 v1 v2 h
    | _ => none), (67, fun a h => match a with
    | [.inr (.inl 17), .inr (.inl 1)] => ru_readExpression h
    | _ => none), (95, fun a h => match a with
    | [.inr (.inl 1)] => tx_answer h
    | _ => none)]
theorem ru_read_orc_ok {d : Nat} : px_Or (d + 5) (ru_read_orc) := px_orc_ok (by
  refine px_o1 (fun a h q e => by
    dsimp only at e
    split at e
    · exact wu_at_ok (d := d + 4) e
    · cases e) ?_
  refine px_o1 (fun a h q e => by
    dsimp only at e
    split at e
    · exact wu_put_ok (d := d + 4) e
    · cases e) ?_
  refine px_o1 (fun a h q e => by
    dsimp only at e
    split at e
    · exact ru_readExpression_ok (d := d + 0) e
    · cases e) ?_
  refine px_o1 (fun a h q e => by
    dsimp only at e
    split at e
    · exact tx_answer_ok (d := d + 4) e
    · cases e) ?_
  exact px_o0)
set_option maxRecDepth 200000 in
theorem ru_read_35_ok {d : Nat} : ∀ (n : Nat) (x2 : Int32) (h : pH) (q : Int32 × pH), ru_read_35 n x2 h = some q → px_G (d + 5 + 1) (pX_RX6, prog_8_method_2_code, 3, (some .int)) 35 [some (.inr (.inl 17)), none, some (.inl x2)] [] h q := by
  intro n
  induction n with
  | zero =>
    intro x2 h q e
    cases e
  | succ n ih =>
    intro x2 h q e
    exact px_blk_ok (d := d + 5) (M := (pX_RX6, prog_8_method_2_code, 3, (some .int))) (C := ru_read_orc) (code := ru_read_code) (ld := [35]) (kl := [(35, fun ls st h => px_if (px_fit [27, 0, 1] ls && px_fits [] st) (ru_read_35 n (px_gi ls 2) h))]) (ru_read_orc_ok) pX_ok_RX6 ru_read_code_ok (px_k1 (px_ko (ts := [27, 0, 1]) (ss := []) fun ls st h q e => ih _ _ _ e) px_k0) 40 35 _ _ h q e
set_option maxRecDepth 200000 in
theorem ru_read_25_ok {d : Nat} : ∀ (h : pH) (q : Int32 × pH), ru_read_25 h = some q → px_G (d + 5 + 1) (pX_RX6, prog_8_method_2_code, 3, (some .int)) 25 [some (.inr (.inl 17)), none, none] [] h q := by
  intro h q e
  exact px_blk_ok (d := d + 5) (M := (pX_RX6, prog_8_method_2_code, 3, (some .int))) (C := ru_read_orc) (code := ru_read_code) (ld := [35]) (kl := [(35, fun ls st h => px_if (px_fit [27, 0, 1] ls && px_fits [] st) (ru_read_35 px_F (px_gi ls 2) h))]) (ru_read_orc_ok) pX_ok_RX6 ru_read_code_ok (px_k1 (px_ko (ts := [27, 0, 1]) (ss := []) fun ls st h q e => ru_read_35_ok _ _ _ _ e) px_k0) 40 25 _ _ h q e
set_option maxRecDepth 200000 in
theorem ru_read_ok {d : Nat} {h : pH} {q : Int32 × pH} (e : ru_read h = some q) : px_Con (d + 6) 66 [.inr (.inl 17), .inr (.inl 1)] h q :=
  px_con (X := pX_RX6) (b := prog_8_method_2_code) (nL := 3) (rt := (some .int)) rfl rfl (Nat.le_of_ble_eq_true rfl) rfl (px_blk_ok (d := d + 5) (M := (pX_RX6, prog_8_method_2_code, 3, (some .int))) (C := ru_read_orc) (code := ru_read_code) (ld := [25]) (kl := [(25, fun ls st h => px_if (px_fit [27, 0, 0] ls && px_fits [] st) (ru_read_25 h))]) (ru_read_orc_ok) pX_ok_RX6 ru_read_code_ok (px_k1 (px_ko (ts := [27, 0, 0]) (ss := []) fun ls st h q e => ru_read_25_ok _ _ e) px_k0) 40 0 _ _ _ q e)
/-! WordsUnsaid$Rule.fact(I)I -/
noncomputable def ru_fact (x1 : Int32) (h : pH) : pR :=
  if x1 = px_c 105 then
    some (h 17 13, h)
  else
  if x1 = px_c 106 then
    some (h 17 14, h)
  else
  if x1 = px_c 107 then
    some (h 17 14, h)
  else
  if x1 = px_c 108 then
    some (h 17 14, h)
  else
  if x1 = px_c 109 then
    some (h 17 14, h)
  else
  if x1 = px_c 110 then
    some (h 17 12, h)
  else
  if x1 = px_c 111 then
    some (h 17 14, h)
  else
  if x1 = px_c 112 then
    some (h 17 8, h)
  else
  if x1 = px_c 113 then
    some (h 17 14, h)
  else
  if x1 = px_c 114 then
    some (h 17 14, h)
  else
  if x1 = px_c 115 then
    some (h 17 14, h)
  else
  if x1 = px_c 116 then
    some (h 17 9, h)
  else
  if x1 = px_c 117 then
    some (h 17 14, h)
  else
  if x1 = px_c 118 then
    some (h 17 14, h)
  else
  if x1 = px_c 119 then
    some (h 17 10, h)
  else
  if x1 = px_c 120 then
    some (h 17 14, h)
  else
  if x1 = px_c 121 then
    some (h 17 11, h)
  else
    some (h 17 14, h)
def ru_fact_code : pCode := [(0, .iload_n 1, 1), (1, .tableswitch (113) (105) (121) #[108, 113, 113, 113, 113, 103, 113, 83, 113, 113, 113, 88, 113, 113, 93, 113, 98], 83), (84, .aload_n 0, 1), (85, .getfield 127, 3), (88, .ireturn, 1), (89, .aload_n 0, 1), (90, .getfield 118, 3), (93, .ireturn, 1), (94, .aload_n 0, 1), (95, .getfield 121, 3), (98, .ireturn, 1), (99, .aload_n 0, 1), (100, .getfield 124, 3), (103, .ireturn, 1), (104, .aload_n 0, 1), (105, .getfield 136, 3), (108, .ireturn, 1), (109, .aload_n 0, 1), (110, .getfield 139, 3), (113, .ireturn, 1), (114, .aload_n 0, 1), (115, .getfield 142, 3), (118, .ireturn, 1)]
set_option maxRecDepth 200000 in
theorem ru_fact_code_ok : px_code prog_8_method_15_code ru_fact_code = true := by decide +kernel
noncomputable def ru_fact_orc : pC := px_orc []
theorem ru_fact_orc_ok {d : Nat} : px_Or (d + 0) (ru_fact_orc) := px_orc_ok (by
  exact px_o0)
set_option maxRecDepth 200000 in
theorem ru_fact_ok {d : Nat} {x1 : Int32} {h : pH} {q : Int32 × pH} (e : ru_fact x1 h = some q) : px_Con (d + 1) 79 [.inr (.inl 17), .inl x1] h q :=
  px_con (X := pX_RX6) (b := prog_8_method_15_code) (nL := 2) (rt := (some .int)) rfl rfl (Nat.le_of_ble_eq_true rfl) rfl (px_blk_ok (d := d + 0) (M := (pX_RX6, prog_8_method_15_code, 2, (some .int))) (C := ru_fact_orc) (code := ru_fact_code) (ld := []) (kl := []) (ru_fact_orc_ok) pX_ok_RX6 ru_fact_code_ok (px_k0) 28 0 _ _ _ q e)
/-! WordsUnsaid$Rule.join(III)I -/
noncomputable def ru_join_70 (s0 : Int32) (h : pH) : pR :=
  some (s0, h)
noncomputable def ru_join_92 (s0 : Int32) (h : pH) : pR :=
  some (s0, h)
noncomputable def ru_join_81 (s0 : Int32) (h : pH) : pR :=
  some (s0, h)
noncomputable def ru_join_116 (s0 : Int32) (h : pH) : pR :=
  some (s0, h)
noncomputable def ru_join (x0 : Int32) (x1 : Int32) (x2 : Int32) (h : pH) : pR :=
  if x0 = px_c 42 then
    some (x1 * x2, h)
  else
  if x0 = px_c 43 then
    some (x1 + x2, h)
  else
  if x0 = px_c 45 then
    some (x1 - x2, h)
  else
  if x0 = px_c 60 then
    if x2 ≤ x1 then
      ru_join_70 (px_c 0) h
    else
      ru_join_70 (px_c 1) h
  else
  if x0 = px_c 61 then
    if x1 = x2 then
      ru_join_92 (px_c 1) h
    else
      ru_join_92 (px_c 0) h
  else
  if x0 = px_c 62 then
    if x1 ≤ x2 then
      ru_join_81 (px_c 0) h
    else
      ru_join_81 (px_c 1) h
  else
    if x2 = 0 then
      ru_join_116 (px_c 0) h
    else
      if x2 = 0 then none else
      ru_join_116 (x1 / x2) h
def ru_join_code : pCode := [(0, .iload_n 0, 1), (1, .lookupswitch (104) #[(42, 100), (43, 92), (45, 96), (60, 59), (61, 81), (62, 70)], 59), (60, .iload_n 1, 1), (61, .iload_n 2, 1), (62, .if_icmp .ge (7), 3), (65, .iconst 1, 1), (66, .goto (4), 3), (69, .iconst 0, 1), (70, .ireturn, 1), (71, .iload_n 1, 1), (72, .iload_n 2, 1), (73, .if_icmp .le (7), 3), (76, .iconst 1, 1), (77, .goto (4), 3), (80, .iconst 0, 1), (81, .ireturn, 1), (82, .iload_n 1, 1), (83, .iload_n 2, 1), (84, .if_icmp .ne (7), 3), (87, .iconst 1, 1), (88, .goto (4), 3), (91, .iconst 0, 1), (92, .ireturn, 1), (93, .iload_n 1, 1), (94, .iload_n 2, 1), (95, .iadd, 1), (96, .ireturn, 1), (97, .iload_n 1, 1), (98, .iload_n 2, 1), (99, .isub, 1), (100, .ireturn, 1), (101, .iload_n 1, 1), (102, .iload_n 2, 1), (103, .imul, 1), (104, .ireturn, 1), (105, .iload_n 2, 1), (106, .ifCond .ne (7), 3), (109, .iconst 0, 1), (110, .goto (6), 3), (113, .iload_n 1, 1), (114, .iload_n 2, 1), (115, .idiv, 1), (116, .ireturn, 1)]
set_option maxRecDepth 200000 in
theorem ru_join_code_ok : px_code prog_8_method_16_code ru_join_code = true := by decide +kernel
noncomputable def ru_join_orc : pC := px_orc []
theorem ru_join_orc_ok {d : Nat} : px_Or (d + 0) (ru_join_orc) := px_orc_ok (by
  exact px_o0)
set_option maxRecDepth 200000 in
theorem ru_join_70_ok {d : Nat} : ∀ (s0 : Int32) (h : pH) (q : Int32 × pH), ru_join_70 s0 h = some q → px_G (d + 0 + 1) (pX_RX6, prog_8_method_16_code, 3, (some .int)) 70 [none, none, none] [.inl s0] h q := by
  intro s0 h q e
  exact px_blk_ok (d := d + 0) (M := (pX_RX6, prog_8_method_16_code, 3, (some .int))) (C := ru_join_orc) (code := ru_join_code) (ld := []) (kl := []) (ru_join_orc_ok) pX_ok_RX6 ru_join_code_ok (px_k0) 48 70 _ _ h q e
set_option maxRecDepth 200000 in
theorem ru_join_92_ok {d : Nat} : ∀ (s0 : Int32) (h : pH) (q : Int32 × pH), ru_join_92 s0 h = some q → px_G (d + 0 + 1) (pX_RX6, prog_8_method_16_code, 3, (some .int)) 92 [none, none, none] [.inl s0] h q := by
  intro s0 h q e
  exact px_blk_ok (d := d + 0) (M := (pX_RX6, prog_8_method_16_code, 3, (some .int))) (C := ru_join_orc) (code := ru_join_code) (ld := []) (kl := []) (ru_join_orc_ok) pX_ok_RX6 ru_join_code_ok (px_k0) 48 92 _ _ h q e
set_option maxRecDepth 200000 in
theorem ru_join_81_ok {d : Nat} : ∀ (s0 : Int32) (h : pH) (q : Int32 × pH), ru_join_81 s0 h = some q → px_G (d + 0 + 1) (pX_RX6, prog_8_method_16_code, 3, (some .int)) 81 [none, none, none] [.inl s0] h q := by
  intro s0 h q e
  exact px_blk_ok (d := d + 0) (M := (pX_RX6, prog_8_method_16_code, 3, (some .int))) (C := ru_join_orc) (code := ru_join_code) (ld := []) (kl := []) (ru_join_orc_ok) pX_ok_RX6 ru_join_code_ok (px_k0) 48 81 _ _ h q e
set_option maxRecDepth 200000 in
theorem ru_join_116_ok {d : Nat} : ∀ (s0 : Int32) (h : pH) (q : Int32 × pH), ru_join_116 s0 h = some q → px_G (d + 0 + 1) (pX_RX6, prog_8_method_16_code, 3, (some .int)) 116 [none, none, none] [.inl s0] h q := by
  intro s0 h q e
  exact px_blk_ok (d := d + 0) (M := (pX_RX6, prog_8_method_16_code, 3, (some .int))) (C := ru_join_orc) (code := ru_join_code) (ld := []) (kl := []) (ru_join_orc_ok) pX_ok_RX6 ru_join_code_ok (px_k0) 48 116 _ _ h q e
set_option maxRecDepth 200000 in
theorem ru_join_ok {d : Nat} {x0 : Int32} {x1 : Int32} {x2 : Int32} {h : pH} {q : Int32 × pH} (e : ru_join x0 x1 x2 h = some q) : px_Con (d + 1) 80 [.inl x0, .inl x1, .inl x2] h q :=
  px_con (X := pX_RX6) (b := prog_8_method_16_code) (nL := 3) (rt := (some .int)) rfl rfl (Nat.le_of_ble_eq_true rfl) rfl (px_blk_ok (d := d + 0) (M := (pX_RX6, prog_8_method_16_code, 3, (some .int))) (C := ru_join_orc) (code := ru_join_code) (ld := [116, 81, 92, 70]) (kl := [(116, fun ls st h => px_if (px_fit [0, 0, 0] ls && px_fits [1] st) (ru_join_116 (px_si st 0) h)), (81, fun ls st h => px_if (px_fit [0, 0, 0] ls && px_fits [1] st) (ru_join_81 (px_si st 0) h)), (92, fun ls st h => px_if (px_fit [0, 0, 0] ls && px_fits [1] st) (ru_join_92 (px_si st 0) h)), (70, fun ls st h => px_if (px_fit [0, 0, 0] ls && px_fits [1] st) (ru_join_70 (px_si st 0) h))]) (ru_join_orc_ok) pX_ok_RX6 ru_join_code_ok (px_k1 (px_ko (ts := [0, 0, 0]) (ss := [1]) fun ls st h q e => ru_join_116_ok _ _ _ e) (px_k1 (px_ko (ts := [0, 0, 0]) (ss := [1]) fun ls st h q e => ru_join_81_ok _ _ _ e) (px_k1 (px_ko (ts := [0, 0, 0]) (ss := [1]) fun ls st h q e => ru_join_92_ok _ _ _ e) (px_k1 (px_ko (ts := [0, 0, 0]) (ss := [1]) fun ls st h q e => ru_join_70_ok _ _ _ e) px_k0)))) 48 0 _ _ _ q e)
/-! WordsUnsaid$Rule.pressure(III)I -/
noncomputable def ru_pressure_181 (r40 : Int32 → Int32 → pH → pR) (x4 : Int32) (x5 : Int32) (h : pH) : pR :=
  r40 x4 (x5 + px_c 1) h
noncomputable def ru_pressure_97 (r40 : Int32 → Int32 → pH → pR) (x4 : Int32) (x5 : Int32) (s0 : Int32) (s1 : Int32) (h : pH) : pR :=
  px_bind (wu_put 20 s1 s0 h) fun _ h2 =>
  ru_pressure_181 r40 (x4 + px_c 1) x5 h2
noncomputable def ru_pressure_74 (r40 : Int32 → Int32 → pH → pR) (x4 : Int32) (x5 : Int32) (x6 : Int32) (h : pH) : pR :=
  if x6 < 0 then
    px_bind (ru_fact (-x6) h) fun z1 h2 =>
    ru_pressure_97 r40 x4 x5 z1 x4 h2
  else
    ru_pressure_97 r40 x4 x5 x6 x4 h
noncomputable def ru_pressure_40 : Nat → Int32 → Int32 → pH → pR
  | 0, _, _, _ => none
  | n + 1, x4, x5, h =>
    if (h 17 4) ≤ x5 then
      px_bind (wu_at 20 (px_c 0) h) fun z1 h2 =>
      some (z1, h2)
    else
      px_bind (wu_at 18 x5 h) fun z3 h4 =>
      if 0 ≤ z3 then
        ru_pressure_74 (ru_pressure_40 n) x4 x5 z3 h4
      else
        px_bind (ru_isLetter (-z3) h4) fun z5 h6 =>
        if z5 = 0 then
          if (-z3) = (px_c 256) then
            px_bind (wu_at 20 (x4 - (px_c 1)) h6) fun z7 h8 =>
            px_bind (wu_put 20 (x4 - (px_c 1)) (-z7) h8) fun _ h10 =>
            ru_pressure_181 (ru_pressure_40 n) x4 x5 h10
          else
            px_bind (wu_at 20 ((x4 + px_c (-1)) - (px_c 1)) h6) fun z11 h12 =>
            px_bind (wu_at 20 (x4 + px_c (-1)) h12) fun z13 h14 =>
            px_bind (ru_join (-z3) z11 z13 h14) fun z15 h16 =>
            px_bind (wu_put 20 ((x4 + px_c (-1)) - (px_c 1)) z15 h16) fun _ h18 =>
            ru_pressure_181 (ru_pressure_40 n) (x4 + px_c (-1)) x5 h18
        else
          ru_pressure_74 (ru_pressure_40 n) x4 x5 z3 h6
noncomputable def ru_pressure (x1 : Int32) (x2 : Int32) (x3 : Int32) (h : pH) : pR :=
  let h1 := px_w h 17 9 x1
  let h2 := px_w h1 17 10 x2
  let h3 := px_w h2 17 11 x3
  if (h3 17 4) = 0 then
    if (px_c 2) = 0 then none else
    some ((h3 17 8) + ((h3 17 9) / (px_c 2)), h3)
  else
    ru_pressure_40 px_F (px_c 0) (px_c 0) h3
def ru_pressure_code : pCode := [(0, .aload_n 0, 1), (1, .iload_n 1, 1), (2, .putfield 118, 3), (5, .aload_n 0, 1), (6, .iload_n 2, 1), (7, .putfield 121, 3), (10, .aload_n 0, 1), (11, .iload_n 3, 1), (12, .putfield 124, 3), (15, .aload_n 0, 1), (16, .getfield 42, 3), (19, .ifCond .ne (15), 3), (22, .aload_n 0, 1), (23, .getfield 127, 3), (26, .aload_n 0, 1), (27, .getfield 118, 3), (30, .iconst 2, 1), (31, .idiv, 1), (32, .iadd, 1), (33, .ireturn, 1), (34, .iconst 0, 1), (35, .istore 4, 2), (37, .iconst 0, 1), (38, .istore 5, 2), (40, .iload 5, 2), (42, .aload_n 0, 1), (43, .getfield 42, 3), (46, .if_icmp .ge (141), 3), (49, .aload_n 0, 1), (50, .getfield 11, 3), (53, .iload 5, 2), (55, .invokestatic 43, 3), (58, .istore 6, 2), (60, .iload 6, 2), (62, .ifCond .ge (12), 3), (65, .iload 6, 2), (67, .ineg, 1), (68, .invokestatic 105, 3), (71, .ifCond .eq (35), 3), (74, .aload_n 0, 1), (75, .getfield 18, 3), (78, .iload 4, 2), (80, .iload 6, 2), (82, .ifCond .lt (8), 3), (85, .iload 6, 2), (87, .goto (10), 3), (90, .aload_n 0, 1), (91, .iload 6, 2), (93, .ineg, 1), (94, .invokevirtual 130, 3), (97, .invokestatic 47, 3), (100, .iinc 4 (1), 3), (103, .goto (78), 3), (106, .iload 6, 2), (108, .ineg, 1), (109, .sipush (256), 3), (112, .if_icmp .ne (29), 3), (115, .aload_n 0, 1), (116, .getfield 18, 3), (119, .iload 4, 2), (121, .iconst 1, 1), (122, .isub, 1), (123, .aload_n 0, 1), (124, .getfield 18, 3), (127, .iload 4, 2), (129, .iconst 1, 1), (130, .isub, 1), (131, .invokestatic 43, 3), (134, .ineg, 1), (135, .invokestatic 47, 3), (138, .goto (43), 3), (141, .iinc 4 (-1), 3), (144, .aload_n 0, 1), (145, .getfield 18, 3), (148, .iload 4, 2), (150, .iconst 1, 1), (151, .isub, 1), (152, .iload 6, 2), (154, .ineg, 1), (155, .aload_n 0, 1), (156, .getfield 18, 3), (159, .iload 4, 2), (161, .iconst 1, 1), (162, .isub, 1), (163, .invokestatic 43, 3), (166, .aload_n 0, 1), (167, .getfield 18, 3), (170, .iload 4, 2), (172, .invokestatic 43, 3), (175, .invokestatic 133, 3), (178, .invokestatic 47, 3), (181, .iinc 5 (1), 3), (184, .goto (-144), 3), (187, .aload_n 0, 1), (188, .getfield 18, 3), (191, .iconst 0, 1), (192, .invokestatic 43, 3), (195, .ireturn, 1)]
set_option maxRecDepth 200000 in
theorem ru_pressure_code_ok : px_code prog_8_method_14_code ru_pressure_code = true := by decide +kernel
noncomputable def ru_pressure_orc : pC := px_orc [(159, fun a h => match a with
    | [.inr (.inl v0), .inl v1, .inl v2] => wu_put v0 v1 v2 h
    | _ => none), (79, fun a h => match a with
    | [.inr (.inl 17), .inl v1] => ru_fact v1 h
    | _ => none), (158, fun a h => match a with
    | [.inr (.inl v0), .inl v1] => wu_at v0 v1 h
    | _ => none), (71, fun a h => match a with
    | [.inl v0] => ru_isLetter v0 h
    | _ => none), (80, fun a h => match a with
    | [.inl v0, .inl v1, .inl v2] => ru_join v0 v1 v2 h
    | _ => none)]
theorem ru_pressure_orc_ok {d : Nat} : px_Or (d + 1) (ru_pressure_orc) := px_orc_ok (by
  refine px_o1 (fun a h q e => by
    dsimp only at e
    split at e
    · exact wu_put_ok (d := d + 0) e
    · cases e) ?_
  refine px_o1 (fun a h q e => by
    dsimp only at e
    split at e
    · exact ru_fact_ok (d := d + 0) e
    · cases e) ?_
  refine px_o1 (fun a h q e => by
    dsimp only at e
    split at e
    · exact wu_at_ok (d := d + 0) e
    · cases e) ?_
  refine px_o1 (fun a h q e => by
    dsimp only at e
    split at e
    · exact ru_isLetter_ok (d := d + 0) e
    · cases e) ?_
  refine px_o1 (fun a h q e => by
    dsimp only at e
    split at e
    · exact ru_join_ok (d := d + 0) e
    · cases e) ?_
  exact px_o0)
set_option maxRecDepth 200000 in
theorem ru_pressure_181_ok {d : Nat} {r40 : Int32 → Int32 → pH → pR} (hr40 : ∀ (x4 : Int32) (x5 : Int32) (h : pH) (q : Int32 × pH), r40 x4 x5 h = some q → px_G (d + 1 + 1) (pX_RX6, prog_8_method_14_code, 7, (some .int)) 40 [some (.inr (.inl 17)), none, none, none, some (.inl x4), some (.inl x5), none] [] h q) : ∀ (x4 : Int32) (x5 : Int32) (h : pH) (q : Int32 × pH), ru_pressure_181 r40 x4 x5 h = some q → px_G (d + 1 + 1) (pX_RX6, prog_8_method_14_code, 7, (some .int)) 181 [some (.inr (.inl 17)), none, none, none, some (.inl x4), some (.inl x5), none] [] h q := by
  intro x4 x5 h q e
  exact px_blk_ok (d := d + 1) (M := (pX_RX6, prog_8_method_14_code, 7, (some .int))) (C := ru_pressure_orc) (code := ru_pressure_code) (ld := [40]) (kl := [(40, fun ls st h => px_if (px_fit [27, 0, 0, 0, 1, 1, 0] ls && px_fits [] st) (r40 (px_gi ls 4) (px_gi ls 5) h))]) (ru_pressure_orc_ok) pX_ok_RX6 ru_pressure_code_ok (px_k1 (px_ko (ts := [27, 0, 0, 0, 1, 1, 0]) (ss := []) fun ls st h q e => hr40 _ _ _ _ e) px_k0) 103 181 _ _ h q e
set_option maxRecDepth 200000 in
theorem ru_pressure_97_ok {d : Nat} {r40 : Int32 → Int32 → pH → pR} (hr40 : ∀ (x4 : Int32) (x5 : Int32) (h : pH) (q : Int32 × pH), r40 x4 x5 h = some q → px_G (d + 1 + 1) (pX_RX6, prog_8_method_14_code, 7, (some .int)) 40 [some (.inr (.inl 17)), none, none, none, some (.inl x4), some (.inl x5), none] [] h q) : ∀ (x4 : Int32) (x5 : Int32) (s0 : Int32) (s1 : Int32) (h : pH) (q : Int32 × pH), ru_pressure_97 r40 x4 x5 s0 s1 h = some q → px_G (d + 1 + 1) (pX_RX6, prog_8_method_14_code, 7, (some .int)) 97 [some (.inr (.inl 17)), none, none, none, some (.inl x4), some (.inl x5), none] [.inl s0, .inl s1, .inr (.inl 20)] h q := by
  intro x4 x5 s0 s1 h q e
  exact px_blk_ok (d := d + 1) (M := (pX_RX6, prog_8_method_14_code, 7, (some .int))) (C := ru_pressure_orc) (code := ru_pressure_code) (ld := [181]) (kl := [(181, fun ls st h => px_if (px_fit [27, 0, 0, 0, 1, 1, 0] ls && px_fits [] st) (ru_pressure_181 r40 (px_gi ls 4) (px_gi ls 5) h))]) (ru_pressure_orc_ok) pX_ok_RX6 ru_pressure_code_ok (px_k1 (px_ko (ts := [27, 0, 0, 0, 1, 1, 0]) (ss := []) fun ls st h q e => ru_pressure_181_ok hr40 _ _ _ _ e) px_k0) 103 97 _ _ h q e
set_option maxRecDepth 200000 in
theorem ru_pressure_74_ok {d : Nat} {r40 : Int32 → Int32 → pH → pR} (hr40 : ∀ (x4 : Int32) (x5 : Int32) (h : pH) (q : Int32 × pH), r40 x4 x5 h = some q → px_G (d + 1 + 1) (pX_RX6, prog_8_method_14_code, 7, (some .int)) 40 [some (.inr (.inl 17)), none, none, none, some (.inl x4), some (.inl x5), none] [] h q) : ∀ (x4 : Int32) (x5 : Int32) (x6 : Int32) (h : pH) (q : Int32 × pH), ru_pressure_74 r40 x4 x5 x6 h = some q → px_G (d + 1 + 1) (pX_RX6, prog_8_method_14_code, 7, (some .int)) 74 [some (.inr (.inl 17)), none, none, none, some (.inl x4), some (.inl x5), some (.inl x6)] [] h q := by
  intro x4 x5 x6 h q e
  exact px_blk_ok (d := d + 1) (M := (pX_RX6, prog_8_method_14_code, 7, (some .int))) (C := ru_pressure_orc) (code := ru_pressure_code) (ld := [97]) (kl := [(97, fun ls st h => px_if (px_fit [27, 0, 0, 0, 1, 1, 0] ls && px_fits [1, 1, 30] st) (ru_pressure_97 r40 (px_gi ls 4) (px_gi ls 5) (px_si st 0) (px_si st 1) h))]) (ru_pressure_orc_ok) pX_ok_RX6 ru_pressure_code_ok (px_k1 (px_ko (ts := [27, 0, 0, 0, 1, 1, 0]) (ss := [1, 1, 30]) fun ls st h q e => ru_pressure_97_ok hr40 _ _ _ _ _ _ e) px_k0) 103 74 _ _ h q e
set_option maxRecDepth 200000 in
theorem ru_pressure_40_ok {d : Nat} : ∀ (n : Nat) (x4 : Int32) (x5 : Int32) (h : pH) (q : Int32 × pH), ru_pressure_40 n x4 x5 h = some q → px_G (d + 1 + 1) (pX_RX6, prog_8_method_14_code, 7, (some .int)) 40 [some (.inr (.inl 17)), none, none, none, some (.inl x4), some (.inl x5), none] [] h q := by
  intro n
  induction n with
  | zero =>
    intro x4 x5 h q e
    cases e
  | succ n ih =>
    intro x4 x5 h q e
    exact px_blk_ok (d := d + 1) (M := (pX_RX6, prog_8_method_14_code, 7, (some .int))) (C := ru_pressure_orc) (code := ru_pressure_code) (ld := [74, 181]) (kl := [(74, fun ls st h => px_if (px_fit [27, 0, 0, 0, 1, 1, 1] ls && px_fits [] st) (ru_pressure_74 (ru_pressure_40 n) (px_gi ls 4) (px_gi ls 5) (px_gi ls 6) h)), (181, fun ls st h => px_if (px_fit [27, 0, 0, 0, 1, 1, 0] ls && px_fits [] st) (ru_pressure_181 (ru_pressure_40 n) (px_gi ls 4) (px_gi ls 5) h))]) (ru_pressure_orc_ok) pX_ok_RX6 ru_pressure_code_ok (px_k1 (px_ko (ts := [27, 0, 0, 0, 1, 1, 1]) (ss := []) fun ls st h q e => ru_pressure_74_ok ih _ _ _ _ _ e) (px_k1 (px_ko (ts := [27, 0, 0, 0, 1, 1, 0]) (ss := []) fun ls st h q e => ru_pressure_181_ok ih _ _ _ _ e) px_k0)) 103 40 _ _ h q e
set_option maxRecDepth 200000 in
theorem ru_pressure_ok {d : Nat} {x1 : Int32} {x2 : Int32} {x3 : Int32} {h : pH} {q : Int32 × pH} (e : ru_pressure x1 x2 x3 h = some q) : px_Con (d + 2) 78 [.inr (.inl 17), .inl x1, .inl x2, .inl x3] h q :=
  px_con (X := pX_RX6) (b := prog_8_method_14_code) (nL := 7) (rt := (some .int)) rfl rfl (Nat.le_of_ble_eq_true rfl) rfl (px_blk_ok (d := d + 1) (M := (pX_RX6, prog_8_method_14_code, 7, (some .int))) (C := ru_pressure_orc) (code := ru_pressure_code) (ld := [40]) (kl := [(40, fun ls st h => px_if (px_fit [27, 0, 0, 0, 1, 1, 0] ls && px_fits [] st) (ru_pressure_40 px_F (px_gi ls 4) (px_gi ls 5) h))]) (ru_pressure_orc_ok) pX_ok_RX6 ru_pressure_code_ok (px_k1 (px_ko (ts := [27, 0, 0, 0, 1, 1, 0]) (ss := []) fun ls st h q e => ru_pressure_40_ok _ _ _ _ _ e) px_k0) 103 0 _ _ _ q e)
/-! WordsUnsaid$Memory.stage(LWordsUnsaid$House;)V -/
noncomputable def me_stage (h : pH) : pR :=
  px_bind (hs_save 42 ((h 41 3) * (px_c 52)) h) fun _ h2 =>
  some (0, h2)
def me_stage_code : pCode := [(0, .aload_n 1, 1), (1, .aload_n 0, 1), (2, .getfield 11, 3), (5, .aload_n 0, 1), (6, .getfield 15, 3), (9, .bipush (52), 2), (11, .imul, 1), (12, .invokevirtual 19, 3), (15, .return_, 1)]
set_option maxRecDepth 200000 in
theorem me_stage_code_ok : px_code prog_6_method_2_code me_stage_code = true := by decide +kernel
noncomputable def me_stage_orc : pC := px_orc [(51, fun a h => match a with
    | [.inr (.inl 3), .inr (.inl v1), .inl v2] => hs_save v1 v2 h
    | _ => none)]
theorem me_stage_orc_ok {d : Nat} : px_Or (d + 2) (me_stage_orc) := px_orc_ok (by
  refine px_o1 (fun a h q e => by
    dsimp only at e
    split at e
    · exact hs_save_ok (d := d + 0) e
    · cases e) ?_
  exact px_o0)
set_option maxRecDepth 200000 in
theorem me_stage_ok {d : Nat} {h : pH} {q : Int32 × pH} (e : me_stage h = some q) : px_Con (d + 3) 53 [.inr (.inl 41), .inr (.inl 3)] h q :=
  px_con (X := pX_RX4) (b := prog_6_method_2_code) (nL := 2) (rt := none) rfl rfl (Nat.le_of_ble_eq_true rfl) rfl (px_blk_ok (d := d + 2) (M := (pX_RX4, prog_6_method_2_code, 2, none)) (C := me_stage_orc) (code := me_stage_code) (ld := []) (kl := []) (me_stage_orc_ok) pX_ok_RX4 me_stage_code_ok (px_k0) 14 0 _ _ _ q e)
/-! WordsUnsaid$Memory.unstage(LWordsUnsaid$House;)V -/
noncomputable def me_unstage (h : pH) : pR :=
  px_bind (hs_load 42 ((h 41 3) * (px_c 52)) h) fun _ h2 =>
  some (0, h2)
def me_unstage_code : pCode := [(0, .aload_n 1, 1), (1, .aload_n 0, 1), (2, .getfield 11, 3), (5, .aload_n 0, 1), (6, .getfield 15, 3), (9, .bipush (52), 2), (11, .imul, 1), (12, .invokevirtual 25, 3), (15, .return_, 1)]
set_option maxRecDepth 200000 in
theorem me_unstage_code_ok : px_code prog_6_method_3_code me_unstage_code = true := by decide +kernel
noncomputable def me_unstage_orc : pC := px_orc [(52, fun a h => match a with
    | [.inr (.inl 3), .inr (.inl v1), .inl v2] => hs_load v1 v2 h
    | _ => none)]
theorem me_unstage_orc_ok {d : Nat} : px_Or (d + 2) (me_unstage_orc) := px_orc_ok (by
  refine px_o1 (fun a h q e => by
    dsimp only at e
    split at e
    · exact hs_load_ok (d := d + 0) e
    · cases e) ?_
  exact px_o0)
set_option maxRecDepth 200000 in
theorem me_unstage_ok {d : Nat} {h : pH} {q : Int32 × pH} (e : me_unstage h = some q) : px_Con (d + 3) 54 [.inr (.inl 41), .inr (.inl 3)] h q :=
  px_con (X := pX_RX4) (b := prog_6_method_3_code) (nL := 2) (rt := none) rfl rfl (Nat.le_of_ble_eq_true rfl) rfl (px_blk_ok (d := d + 2) (M := (pX_RX4, prog_6_method_3_code, 2, none)) (C := me_unstage_orc) (code := me_unstage_code) (ld := []) (kl := []) (me_unstage_orc_ok) pX_ok_RX4 me_unstage_code_ok (px_k0) 14 0 _ _ _ q e)
/-! WordsUnsaid$Memory.commit()V -/
noncomputable def me_commit (h : pH) : pR :=
  if (px_c 13) = 0 then none else
  let h1 := px_w h 41 3 (((h 41 3) + (px_c 1)) - ((h 41 3) + (px_c 1)) / (px_c 13) * (px_c 13))
  let h2 := px_w h1 41 2 (px_min ((h1 41 2) + (px_c 1)) (px_c 12))
  some (0, h2)
def me_commit_code : pCode := [(0, .aload_n 0, 1), (1, .aload_n 0, 1), (2, .getfield 15, 3), (5, .iconst 1, 1), (6, .iadd, 1), (7, .bipush (13), 2), (9, .irem, 1), (10, .putfield 15, 3), (13, .aload_n 0, 1), (14, .aload_n 0, 1), (15, .getfield 28, 3), (18, .iconst 1, 1), (19, .iadd, 1), (20, .bipush (12), 2), (22, .invokestatic 31, 3), (25, .putfield 28, 3), (28, .return_, 1)]
set_option maxRecDepth 200000 in
theorem me_commit_code_ok : px_code prog_6_method_4_code me_commit_code = true := by decide +kernel
noncomputable def me_commit_orc : pC := px_orc []
theorem me_commit_orc_ok {d : Nat} : px_Or (d + 0) (me_commit_orc) := px_orc_ok (by
  exact px_o0)
set_option maxRecDepth 200000 in
theorem me_commit_ok {d : Nat} {h : pH} {q : Int32 × pH} (e : me_commit h = some q) : px_Con (d + 1) 55 [.inr (.inl 41)] h q :=
  px_con (X := pX_RX4) (b := prog_6_method_4_code) (nL := 1) (rt := none) rfl rfl (Nat.le_of_ble_eq_true rfl) rfl (px_blk_ok (d := d + 0) (M := (pX_RX4, prog_6_method_4_code, 1, none)) (C := me_commit_orc) (code := me_commit_code) (ld := []) (kl := []) (me_commit_orc_ok) pX_ok_RX4 me_commit_code_ok (px_k0) 22 0 _ _ _ q e)
/-! WordsUnsaid$Memory.takeBack(LWordsUnsaid$House;)Z -/
noncomputable def me_takeBack (h : pH) : pR :=
  if (h 41 2) = 0 then
    px_bz (px_c 0) h
  else
    if (px_c 13) = 0 then none else
    let h1 := px_w h 41 3 ((((h 41 3) + (px_c 13)) - (px_c 1)) - (((h 41 3) + (px_c 13)) - (px_c 1)) / (px_c 13) * (px_c 13))
    let h2 := px_w h1 41 2 ((h1 41 2) - (px_c 1))
    px_bind (hs_load 42 ((h2 41 3) * (px_c 52)) h2) fun _ h4 =>
    px_bz (px_c 1) h4
def me_takeBack_code : pCode := [(0, .aload_n 0, 1), (1, .getfield 28, 3), (4, .ifCond .ne (5), 3), (7, .iconst 0, 1), (8, .ireturn, 1), (9, .aload_n 0, 1), (10, .aload_n 0, 1), (11, .getfield 15, 3), (14, .bipush (13), 2), (16, .iadd, 1), (17, .iconst 1, 1), (18, .isub, 1), (19, .bipush (13), 2), (21, .irem, 1), (22, .putfield 15, 3), (25, .aload_n 0, 1), (26, .dup, 1), (27, .getfield 28, 3), (30, .iconst 1, 1), (31, .isub, 1), (32, .putfield 28, 3), (35, .aload_n 1, 1), (36, .aload_n 0, 1), (37, .getfield 11, 3), (40, .aload_n 0, 1), (41, .getfield 15, 3), (44, .bipush (52), 2), (46, .imul, 1), (47, .invokevirtual 25, 3), (50, .iconst 1, 1), (51, .ireturn, 1)]
set_option maxRecDepth 200000 in
theorem me_takeBack_code_ok : px_code prog_6_method_5_code me_takeBack_code = true := by decide +kernel
noncomputable def me_takeBack_orc : pC := px_orc [(52, fun a h => match a with
    | [.inr (.inl 3), .inr (.inl v1), .inl v2] => hs_load v1 v2 h
    | _ => none)]
theorem me_takeBack_orc_ok {d : Nat} : px_Or (d + 2) (me_takeBack_orc) := px_orc_ok (by
  refine px_o1 (fun a h q e => by
    dsimp only at e
    split at e
    · exact hs_load_ok (d := d + 0) e
    · cases e) ?_
  exact px_o0)
set_option maxRecDepth 200000 in
theorem me_takeBack_ok {d : Nat} {h : pH} {q : Int32 × pH} (e : me_takeBack h = some q) : px_Con (d + 3) 56 [.inr (.inl 41), .inr (.inl 3)] h q :=
  px_con (X := pX_RX4) (b := prog_6_method_5_code) (nL := 2) (rt := (some .boolean)) rfl rfl (Nat.le_of_ble_eq_true rfl) rfl (px_blk_ok (d := d + 2) (M := (pX_RX4, prog_6_method_5_code, 2, (some .boolean))) (C := me_takeBack_orc) (code := me_takeBack_code) (ld := []) (kl := []) (me_takeBack_orc_ok) pX_ok_RX4 me_takeBack_code_ok (px_k0) 36 0 _ _ _ q e)
/-! WordsUnsaid$Memory.forgetAll()V -/
noncomputable def me_forgetAll (h : pH) : pR :=
  let h1 := px_w h 41 2 (px_c 0)
  let h2 := px_w h1 41 1 (px_c 0)
  some (0, h2)
def me_forgetAll_code : pCode := [(0, .aload_n 0, 1), (1, .iconst 0, 1), (2, .putfield 28, 3), (5, .aload_n 0, 1), (6, .iconst 0, 1), (7, .putfield 37, 3), (10, .return_, 1)]
set_option maxRecDepth 200000 in
theorem me_forgetAll_code_ok : px_code prog_6_method_6_code me_forgetAll_code = true := by decide +kernel
noncomputable def me_forgetAll_orc : pC := px_orc []
theorem me_forgetAll_orc_ok {d : Nat} : px_Or (d + 0) (me_forgetAll_orc) := px_orc_ok (by
  exact px_o0)
set_option maxRecDepth 200000 in
theorem me_forgetAll_ok {d : Nat} {h : pH} {q : Int32 × pH} (e : me_forgetAll h = some q) : px_Con (d + 1) 57 [.inr (.inl 41)] h q :=
  px_con (X := pX_RX4) (b := prog_6_method_6_code) (nL := 1) (rt := none) rfl rfl (Nat.le_of_ble_eq_true rfl) rfl (px_blk_ok (d := d + 0) (M := (pX_RX4, prog_6_method_6_code, 1, none)) (C := me_forgetAll_orc) (code := me_forgetAll_code) (ld := []) (kl := []) (me_forgetAll_orc_ok) pX_ok_RX4 me_forgetAll_code_ok (px_k0) 12 0 _ _ _ q e)
/-! WordsUnsaid$Memory.keepUnder(ILWordsUnsaid$House;)Z -/
noncomputable def me_keepUnder_9 (h : pH) : pR :=
  px_bz (px_c 0) h
noncomputable def me_keepUnder (x1 : Int32) (h : pH) : pR :=
  if x1 < 0 then
    me_keepUnder_9 h
  else
    if x1 < (px_c 2) then
      px_bind (hs_save 42 (((px_c 13) + x1) * (px_c 52)) h) fun _ h2 =>
      let h3 := px_w h2 41 1 ((h2 41 1) ||| ((px_c 1) <<< (x1 &&& 31)))
      px_bz (px_c 1) h3
    else
      me_keepUnder_9 h
def me_keepUnder_code : pCode := [(0, .iload_n 1, 1), (1, .ifCond .lt (8), 3), (4, .iload_n 1, 1), (5, .iconst 2, 1), (6, .if_icmp .lt (5), 3), (9, .iconst 0, 1), (10, .ireturn, 1), (11, .aload_n 2, 1), (12, .aload_n 0, 1), (13, .getfield 11, 3), (16, .bipush (13), 2), (18, .iload_n 1, 1), (19, .iadd, 1), (20, .bipush (52), 2), (22, .imul, 1), (23, .invokevirtual 19, 3), (26, .aload_n 0, 1), (27, .dup, 1), (28, .getfield 37, 3), (31, .iconst 1, 1), (32, .iload_n 1, 1), (33, .ishl, 1), (34, .ior, 1), (35, .putfield 37, 3), (38, .iconst 1, 1), (39, .ireturn, 1)]
set_option maxRecDepth 200000 in
theorem me_keepUnder_code_ok : px_code prog_6_method_7_code me_keepUnder_code = true := by decide +kernel
noncomputable def me_keepUnder_orc : pC := px_orc [(51, fun a h => match a with
    | [.inr (.inl 3), .inr (.inl v1), .inl v2] => hs_save v1 v2 h
    | _ => none)]
theorem me_keepUnder_orc_ok {d : Nat} : px_Or (d + 2) (me_keepUnder_orc) := px_orc_ok (by
  refine px_o1 (fun a h q e => by
    dsimp only at e
    split at e
    · exact hs_save_ok (d := d + 0) e
    · cases e) ?_
  exact px_o0)
set_option maxRecDepth 200000 in
theorem me_keepUnder_9_ok {d : Nat} : ∀ (h : pH) (q : Int32 × pH), me_keepUnder_9 h = some q → px_G (d + 2 + 1) (pX_RX4, prog_6_method_7_code, 3, (some .boolean)) 9 [none, none, none] [] h q := by
  intro h q e
  exact px_blk_ok (d := d + 2) (M := (pX_RX4, prog_6_method_7_code, 3, (some .boolean))) (C := me_keepUnder_orc) (code := me_keepUnder_code) (ld := []) (kl := []) (me_keepUnder_orc_ok) pX_ok_RX4 me_keepUnder_code_ok (px_k0) 31 9 _ _ h q e
set_option maxRecDepth 200000 in
theorem me_keepUnder_ok {d : Nat} {x1 : Int32} {h : pH} {q : Int32 × pH} (e : me_keepUnder x1 h = some q) : px_Con (d + 3) 58 [.inr (.inl 41), .inl x1, .inr (.inl 3)] h q :=
  px_con (X := pX_RX4) (b := prog_6_method_7_code) (nL := 3) (rt := (some .boolean)) rfl rfl (Nat.le_of_ble_eq_true rfl) rfl (px_blk_ok (d := d + 2) (M := (pX_RX4, prog_6_method_7_code, 3, (some .boolean))) (C := me_keepUnder_orc) (code := me_keepUnder_code) (ld := [9]) (kl := [(9, fun ls st h => px_if (px_fit [0, 0, 0] ls && px_fits [] st) (me_keepUnder_9 h))]) (me_keepUnder_orc_ok) pX_ok_RX4 me_keepUnder_code_ok (px_k1 (px_ko (ts := [0, 0, 0]) (ss := []) fun ls st h q e => me_keepUnder_9_ok _ _ e) px_k0) 31 0 _ _ _ q e)
/-! WordsUnsaid$Memory.bringBack(ILWordsUnsaid$House;)Z -/
noncomputable def me_bringBack_20 (h : pH) : pR :=
  px_bz (px_c 0) h
noncomputable def me_bringBack (x1 : Int32) (h : pH) : pR :=
  if x1 < 0 then
    me_bringBack_20 h
  else
    if (px_c 2) ≤ x1 then
      me_bringBack_20 h
    else
      px_bind (wu_has (h 41 1) x1 h) fun z1 h2 =>
      if z1 = 0 then
        me_bringBack_20 h2
      else
        px_bind (hs_load 42 (((px_c 13) + x1) * (px_c 52)) h2) fun _ h4 =>
        let h5 := px_w h4 41 2 (px_c 0)
        px_bz (px_c 1) h5
def me_bringBack_code : pCode := [(0, .iload_n 1, 1), (1, .ifCond .lt (19), 3), (4, .iload_n 1, 1), (5, .iconst 2, 1), (6, .if_icmp .ge (14), 3), (9, .aload_n 0, 1), (10, .getfield 37, 3), (13, .iload_n 1, 1), (14, .invokestatic 40, 3), (17, .ifCond .ne (5), 3), (20, .iconst 0, 1), (21, .ireturn, 1), (22, .aload_n 2, 1), (23, .aload_n 0, 1), (24, .getfield 11, 3), (27, .bipush (13), 2), (29, .iload_n 1, 1), (30, .iadd, 1), (31, .bipush (52), 2), (33, .imul, 1), (34, .invokevirtual 25, 3), (37, .aload_n 0, 1), (38, .iconst 0, 1), (39, .putfield 28, 3), (42, .iconst 1, 1), (43, .ireturn, 1)]
set_option maxRecDepth 200000 in
theorem me_bringBack_code_ok : px_code prog_6_method_8_code me_bringBack_code = true := by decide +kernel
noncomputable def me_bringBack_orc : pC := px_orc [(160, fun a h => match a with
    | [.inl v0, .inl v1] => wu_has v0 v1 h
    | _ => none), (52, fun a h => match a with
    | [.inr (.inl 3), .inr (.inl v1), .inl v2] => hs_load v1 v2 h
    | _ => none)]
theorem me_bringBack_orc_ok {d : Nat} : px_Or (d + 2) (me_bringBack_orc) := px_orc_ok (by
  refine px_o1 (fun a h q e => by
    dsimp only at e
    split at e
    · exact wu_has_ok (d := d + 1) e
    · cases e) ?_
  refine px_o1 (fun a h q e => by
    dsimp only at e
    split at e
    · exact hs_load_ok (d := d + 0) e
    · cases e) ?_
  exact px_o0)
set_option maxRecDepth 200000 in
theorem me_bringBack_20_ok {d : Nat} : ∀ (h : pH) (q : Int32 × pH), me_bringBack_20 h = some q → px_G (d + 2 + 1) (pX_RX4, prog_6_method_8_code, 3, (some .boolean)) 20 [none, none, none] [] h q := by
  intro h q e
  exact px_blk_ok (d := d + 2) (M := (pX_RX4, prog_6_method_8_code, 3, (some .boolean))) (C := me_bringBack_orc) (code := me_bringBack_code) (ld := []) (kl := []) (me_bringBack_orc_ok) pX_ok_RX4 me_bringBack_code_ok (px_k0) 31 20 _ _ h q e
set_option maxRecDepth 200000 in
theorem me_bringBack_ok {d : Nat} {x1 : Int32} {h : pH} {q : Int32 × pH} (e : me_bringBack x1 h = some q) : px_Con (d + 3) 59 [.inr (.inl 41), .inl x1, .inr (.inl 3)] h q :=
  px_con (X := pX_RX4) (b := prog_6_method_8_code) (nL := 3) (rt := (some .boolean)) rfl rfl (Nat.le_of_ble_eq_true rfl) rfl (px_blk_ok (d := d + 2) (M := (pX_RX4, prog_6_method_8_code, 3, (some .boolean))) (C := me_bringBack_orc) (code := me_bringBack_code) (ld := [20]) (kl := [(20, fun ls st h => px_if (px_fit [0, 0, 0] ls && px_fits [] st) (me_bringBack_20 h))]) (me_bringBack_orc_ok) pX_ok_RX4 me_bringBack_code_ok (px_k1 (px_ko (ts := [0, 0, 0]) (ss := []) fun ls st h q e => me_bringBack_20_ok _ _ e) px_k0) 31 0 _ _ _ q e)
/-! WordsUnsaid$Act.readThings(LWordsUnsaid$Text;)Z -/
noncomputable def ac_readThings_82 (s0 : Int32) (h : pH) : pR :=
  px_bz s0 h
noncomputable def ac_readThings_77 (h : pH) : pR :=
  ac_readThings_82 (px_c 1) h
noncomputable def ac_readThings_63 (h : pH) : pR :=
  if 0 < (h 43 1) then
    ac_readThings_77 h
  else
    px_bind (tx_refuse h) fun z1 h2 =>
    if z1 = 0 then
      ac_readThings_82 (px_c 0) h2
    else
      ac_readThings_77 h2
noncomputable def ac_readThings_7 : Nat → Int32 → pH → pR
  | 0, _, _ => none
  | n + 1, x2, h =>
    if (px_c 6) ≤ x2 then
      ac_readThings_63 h
    else
      px_bind (tx_next h) fun z1 h2 =>
      let y3_3 := z1 - (px_c 113)
      if y3_3 < 0 then
        ac_readThings_63 h2
      else
        if y3_3 < (px_c 10) then
          px_bind (wu_put 44 x2 y3_3 h2) fun _ h5 =>
          px_bind (tx_skip h5) fun _ h7 =>
          let h8 := px_w h7 43 1 ((h7 43 1) + (px_c 1))
          ac_readThings_7 n (x2 + px_c 1) h8
        else
          ac_readThings_63 h2
noncomputable def ac_readThings (h : pH) : pR :=
  let h1 := px_w h 43 1 (px_c 0)
  ac_readThings_7 px_F (px_c 0) h1
def ac_readThings_code : pCode := [(0, .aload_n 0, 1), (1, .iconst 0, 1), (2, .putfield 85, 3), (5, .iconst 0, 1), (6, .istore_n 2, 1), (7, .iload_n 2, 1), (8, .bipush (6), 2), (10, .if_icmp .ge (53), 3), (13, .aload_n 1, 1), (14, .invokevirtual 44, 3), (17, .bipush (113), 2), (19, .isub, 1), (20, .istore_n 3, 1), (21, .iload_n 3, 1), (22, .ifCond .lt (41), 3), (25, .iload_n 3, 1), (26, .bipush (10), 2), (28, .if_icmp .lt (6), 3), (31, .goto (32), 3), (34, .aload_n 0, 1), (35, .getfield 9, 3), (38, .iload_n 2, 1), (39, .iload_n 3, 1), (40, .invokestatic 86, 3), (43, .aload_n 1, 1), (44, .invokevirtual 50, 3), (47, .aload_n 0, 1), (48, .dup, 1), (49, .getfield 85, 3), (52, .iconst 1, 1), (53, .iadd, 1), (54, .putfield 85, 3), (57, .iinc 2 (1), 3), (60, .goto (-53), 3), (63, .aload_n 0, 1), (64, .getfield 85, 3), (67, .ifCond .gt (10), 3), (70, .aload_n 1, 1), (71, .invokevirtual 47, 3), (74, .ifCond .eq (7), 3), (77, .iconst 1, 1), (78, .goto (4), 3), (81, .iconst 0, 1), (82, .ireturn, 1)]
set_option maxRecDepth 200000 in
theorem ac_readThings_code_ok : px_code prog_2_method_6_code ac_readThings_code = true := by decide +kernel
noncomputable def ac_readThings_orc : pC := px_orc [(93, fun a h => match a with
    | [.inr (.inl 1)] => tx_refuse h
    | _ => none), (89, fun a h => match a with
    | [.inr (.inl 1)] => tx_next h
    | _ => none), (159, fun a h => match a with
    | [.inr (.inl v0), .inl v1, .inl v2] => wu_put v0 v1 v2 h
    | _ => none), (90, fun a h => match a with
    | [.inr (.inl 1)] => tx_skip h
    | _ => none)]
theorem ac_readThings_orc_ok {d : Nat} : px_Or (d + 1) (ac_readThings_orc) := px_orc_ok (by
  refine px_o1 (fun a h q e => by
    dsimp only at e
    split at e
    · exact tx_refuse_ok (d := d + 0) e
    · cases e) ?_
  refine px_o1 (fun a h q e => by
    dsimp only at e
    split at e
    · exact tx_next_ok (d := d + 0) e
    · cases e) ?_
  refine px_o1 (fun a h q e => by
    dsimp only at e
    split at e
    · exact wu_put_ok (d := d + 0) e
    · cases e) ?_
  refine px_o1 (fun a h q e => by
    dsimp only at e
    split at e
    · exact tx_skip_ok (d := d + 0) e
    · cases e) ?_
  exact px_o0)
set_option maxRecDepth 200000 in
theorem ac_readThings_82_ok {d : Nat} : ∀ (s0 : Int32) (h : pH) (q : Int32 × pH), ac_readThings_82 s0 h = some q → px_G (d + 1 + 1) (pX_RX0, prog_2_method_6_code, 4, (some .boolean)) 82 [none, none, none, none] [.inl s0] h q := by
  intro s0 h q e
  exact px_blk_ok (d := d + 1) (M := (pX_RX0, prog_2_method_6_code, 4, (some .boolean))) (C := ac_readThings_orc) (code := ac_readThings_code) (ld := []) (kl := []) (ac_readThings_orc_ok) pX_ok_RX0 ac_readThings_code_ok (px_k0) 49 82 _ _ h q e
set_option maxRecDepth 200000 in
theorem ac_readThings_77_ok {d : Nat} : ∀ (h : pH) (q : Int32 × pH), ac_readThings_77 h = some q → px_G (d + 1 + 1) (pX_RX0, prog_2_method_6_code, 4, (some .boolean)) 77 [none, none, none, none] [] h q := by
  intro h q e
  exact px_blk_ok (d := d + 1) (M := (pX_RX0, prog_2_method_6_code, 4, (some .boolean))) (C := ac_readThings_orc) (code := ac_readThings_code) (ld := [82]) (kl := [(82, fun ls st h => px_if (px_fit [0, 0, 0, 0] ls && px_fits [1] st) (ac_readThings_82 (px_si st 0) h))]) (ac_readThings_orc_ok) pX_ok_RX0 ac_readThings_code_ok (px_k1 (px_ko (ts := [0, 0, 0, 0]) (ss := [1]) fun ls st h q e => ac_readThings_82_ok _ _ _ e) px_k0) 49 77 _ _ h q e
set_option maxRecDepth 200000 in
theorem ac_readThings_63_ok {d : Nat} : ∀ (h : pH) (q : Int32 × pH), ac_readThings_63 h = some q → px_G (d + 1 + 1) (pX_RX0, prog_2_method_6_code, 4, (some .boolean)) 63 [some (.inr (.inl 43)), some (.inr (.inl 1)), none, none] [] h q := by
  intro h q e
  exact px_blk_ok (d := d + 1) (M := (pX_RX0, prog_2_method_6_code, 4, (some .boolean))) (C := ac_readThings_orc) (code := ac_readThings_code) (ld := [77, 82]) (kl := [(77, fun ls st h => px_if (px_fit [0, 0, 0, 0] ls && px_fits [] st) (ac_readThings_77 h)), (82, fun ls st h => px_if (px_fit [0, 0, 0, 0] ls && px_fits [1] st) (ac_readThings_82 (px_si st 0) h))]) (ac_readThings_orc_ok) pX_ok_RX0 ac_readThings_code_ok (px_k1 (px_ko (ts := [0, 0, 0, 0]) (ss := []) fun ls st h q e => ac_readThings_77_ok _ _ e) (px_k1 (px_ko (ts := [0, 0, 0, 0]) (ss := [1]) fun ls st h q e => ac_readThings_82_ok _ _ _ e) px_k0)) 49 63 _ _ h q e
set_option maxRecDepth 200000 in
theorem ac_readThings_7_ok {d : Nat} : ∀ (n : Nat) (x2 : Int32) (h : pH) (q : Int32 × pH), ac_readThings_7 n x2 h = some q → px_G (d + 1 + 1) (pX_RX0, prog_2_method_6_code, 4, (some .boolean)) 7 [some (.inr (.inl 43)), some (.inr (.inl 1)), some (.inl x2), none] [] h q := by
  intro n
  induction n with
  | zero =>
    intro x2 h q e
    cases e
  | succ n ih =>
    intro x2 h q e
    exact px_blk_ok (d := d + 1) (M := (pX_RX0, prog_2_method_6_code, 4, (some .boolean))) (C := ac_readThings_orc) (code := ac_readThings_code) (ld := [7, 63]) (kl := [(7, fun ls st h => px_if (px_fit [53, 11, 1, 0] ls && px_fits [] st) (ac_readThings_7 n (px_gi ls 2) h)), (63, fun ls st h => px_if (px_fit [53, 11, 0, 0] ls && px_fits [] st) (ac_readThings_63 h))]) (ac_readThings_orc_ok) pX_ok_RX0 ac_readThings_code_ok (px_k1 (px_ko (ts := [53, 11, 1, 0]) (ss := []) fun ls st h q e => ih _ _ _ e) (px_k1 (px_ko (ts := [53, 11, 0, 0]) (ss := []) fun ls st h q e => ac_readThings_63_ok _ _ e) px_k0)) 49 7 _ _ h q e
set_option maxRecDepth 200000 in
theorem ac_readThings_ok {d : Nat} {h : pH} {q : Int32 × pH} (e : ac_readThings h = some q) : px_Con (d + 2) 4 [.inr (.inl 43), .inr (.inl 1)] h q :=
  px_con (X := pX_RX0) (b := prog_2_method_6_code) (nL := 4) (rt := (some .boolean)) rfl rfl (Nat.le_of_ble_eq_true rfl) rfl (px_blk_ok (d := d + 1) (M := (pX_RX0, prog_2_method_6_code, 4, (some .boolean))) (C := ac_readThings_orc) (code := ac_readThings_code) (ld := [7]) (kl := [(7, fun ls st h => px_if (px_fit [53, 11, 1, 0] ls && px_fits [] st) (ac_readThings_7 px_F (px_gi ls 2) h))]) (ac_readThings_orc_ok) pX_ok_RX0 ac_readThings_code_ok (px_k1 (px_ko (ts := [53, 11, 1, 0]) (ss := []) fun ls st h q e => ac_readThings_7_ok _ _ _ _ e) px_k0) 49 0 _ _ _ q e)
/-! WordsUnsaid$Act.readCrossing(LWordsUnsaid$Text;)Z -/
noncomputable def ac_readCrossing_93 (s0 : Int32) (h : pH) : pR :=
  px_bz s0 h
noncomputable def ac_readCrossing_92 (h : pH) : pR :=
  ac_readCrossing_93 (px_c 0) h
noncomputable def ac_readCrossing_52 (h : pH) : pR :=
  px_bind (tx_number (px_c 1) (px_c 0) (px_c 1) h) fun z1 h2 =>
  let h3 := px_w h2 43 5 z1
  if (h3 43 5) = (px_c (-1)) then
    ac_readCrossing_92 h3
  else
    px_bind (tx_take (px_c 58) h3) fun z4 h5 =>
    if z4 = 0 then
      ac_readCrossing_92 h5
    else
      px_bind (ac_readThings h5) fun z6 h7 =>
      if z6 = 0 then
        ac_readCrossing_92 h7
      else
        ac_readCrossing_93 (px_c 1) h7
noncomputable def ac_readCrossing (h : pH) : pR :=
  let h1 := px_w h 43 4 (px_c (-1))
  px_bind (tx_meet (px_c 43) h1) fun z2 h3 =>
  if z2 = 0 then
    ac_readCrossing_52 h3
  else
    px_bind (tx_letter (px_c 97) (px_c 6) h3) fun z4 h5 =>
    let h6 := px_w h5 43 4 z4
    if (h6 43 4) = (px_c (-1)) then
      px_bz (px_c 0) h6
    else
      if (h6 43 4) = (h6 43 3) then
        px_bind (tx_refuseLast h6) fun z7 h8 =>
        px_bz z7 h8
      else
        ac_readCrossing_52 h6
def ac_readCrossing_code : pCode := [(0, .aload_n 0, 1), (1, .iconst (-1), 1), (2, .putfield 63, 3), (5, .aload_n 1, 1), (6, .bipush (43), 2), (8, .invokevirtual 33, 3), (11, .ifCond .eq (41), 3), (14, .aload_n 0, 1), (15, .aload_n 1, 1), (16, .bipush (97), 2), (18, .bipush (6), 2), (20, .invokevirtual 53, 3), (23, .putfield 63, 3), (26, .aload_n 0, 1), (27, .getfield 63, 3), (30, .iconst (-1), 1), (31, .if_icmp .ne (5), 3), (34, .iconst 0, 1), (35, .ireturn, 1), (36, .aload_n 0, 1), (37, .getfield 63, 3), (40, .aload_n 0, 1), (41, .getfield 57, 3), (44, .if_icmp .ne (8), 3), (47, .aload_n 1, 1), (48, .invokevirtual 69, 3), (51, .ireturn, 1), (52, .aload_n 0, 1), (53, .aload_n 1, 1), (54, .iconst 1, 1), (55, .iconst 0, 1), (56, .iconst 1, 1), (57, .invokevirtual 72, 3), (60, .putfield 76, 3), (63, .aload_n 0, 1), (64, .getfield 76, 3), (67, .iconst (-1), 1), (68, .if_icmp .eq (24), 3), (71, .aload_n 1, 1), (72, .bipush (58), 2), (74, .invokevirtual 79, 3), (77, .ifCond .eq (15), 3), (80, .aload_n 0, 1), (81, .aload_n 1, 1), (82, .invokevirtual 82, 3), (85, .ifCond .eq (7), 3), (88, .iconst 1, 1), (89, .goto (4), 3), (92, .iconst 0, 1), (93, .ireturn, 1)]
set_option maxRecDepth 200000 in
theorem ac_readCrossing_code_ok : px_code prog_2_method_5_code ac_readCrossing_code = true := by decide +kernel
noncomputable def ac_readCrossing_orc : pC := px_orc [(98, fun a h => match a with
    | [.inr (.inl 1), .inl v1, .inl v2, .inl v3] => tx_number v1 v2 v3 h
    | _ => none), (92, fun a h => match a with
    | [.inr (.inl 1), .inl v1] => tx_take v1 h
    | _ => none), (4, fun a h => match a with
    | [.inr (.inl 43), .inr (.inl 1)] => ac_readThings h
    | _ => none), (91, fun a h => match a with
    | [.inr (.inl 1), .inl v1] => tx_meet v1 h
    | _ => none), (99, fun a h => match a with
    | [.inr (.inl 1), .inl v1, .inl v2] => tx_letter v1 v2 h
    | _ => none), (94, fun a h => match a with
    | [.inr (.inl 1)] => tx_refuseLast h
    | _ => none)]
theorem ac_readCrossing_orc_ok {d : Nat} : px_Or (d + 3) (ac_readCrossing_orc) := px_orc_ok (by
  refine px_o1 (fun a h q e => by
    dsimp only at e
    split at e
    · exact tx_number_ok (d := d + 0) e
    · cases e) ?_
  refine px_o1 (fun a h q e => by
    dsimp only at e
    split at e
    · exact tx_take_ok (d := d + 0) e
    · cases e) ?_
  refine px_o1 (fun a h q e => by
    dsimp only at e
    split at e
    · exact ac_readThings_ok (d := d + 1) e
    · cases e) ?_
  refine px_o1 (fun a h q e => by
    dsimp only at e
    split at e
    · exact tx_meet_ok (d := d + 1) e
    · cases e) ?_
  refine px_o1 (fun a h q e => by
    dsimp only at e
    split at e
    · exact tx_letter_ok (d := d + 1) e
    · cases e) ?_
  refine px_o1 (fun a h q e => by
    dsimp only at e
    split at e
    · exact tx_refuseLast_ok (d := d + 2) e
    · cases e) ?_
  exact px_o0)
set_option maxRecDepth 200000 in
theorem ac_readCrossing_93_ok {d : Nat} : ∀ (s0 : Int32) (h : pH) (q : Int32 × pH), ac_readCrossing_93 s0 h = some q → px_G (d + 3 + 1) (pX_RX0, prog_2_method_5_code, 2, (some .boolean)) 93 [none, none] [.inl s0] h q := by
  intro s0 h q e
  exact px_blk_ok (d := d + 3) (M := (pX_RX0, prog_2_method_5_code, 2, (some .boolean))) (C := ac_readCrossing_orc) (code := ac_readCrossing_code) (ld := []) (kl := []) (ac_readCrossing_orc_ok) pX_ok_RX0 ac_readCrossing_code_ok (px_k0) 55 93 _ _ h q e
set_option maxRecDepth 200000 in
theorem ac_readCrossing_92_ok {d : Nat} : ∀ (h : pH) (q : Int32 × pH), ac_readCrossing_92 h = some q → px_G (d + 3 + 1) (pX_RX0, prog_2_method_5_code, 2, (some .boolean)) 92 [none, none] [] h q := by
  intro h q e
  exact px_blk_ok (d := d + 3) (M := (pX_RX0, prog_2_method_5_code, 2, (some .boolean))) (C := ac_readCrossing_orc) (code := ac_readCrossing_code) (ld := [93]) (kl := [(93, fun ls st h => px_if (px_fit [0, 0] ls && px_fits [1] st) (ac_readCrossing_93 (px_si st 0) h))]) (ac_readCrossing_orc_ok) pX_ok_RX0 ac_readCrossing_code_ok (px_k1 (px_ko (ts := [0, 0]) (ss := [1]) fun ls st h q e => ac_readCrossing_93_ok _ _ _ e) px_k0) 55 92 _ _ h q e
set_option maxRecDepth 200000 in
theorem ac_readCrossing_52_ok {d : Nat} : ∀ (h : pH) (q : Int32 × pH), ac_readCrossing_52 h = some q → px_G (d + 3 + 1) (pX_RX0, prog_2_method_5_code, 2, (some .boolean)) 52 [some (.inr (.inl 43)), some (.inr (.inl 1))] [] h q := by
  intro h q e
  exact px_blk_ok (d := d + 3) (M := (pX_RX0, prog_2_method_5_code, 2, (some .boolean))) (C := ac_readCrossing_orc) (code := ac_readCrossing_code) (ld := [92, 93]) (kl := [(92, fun ls st h => px_if (px_fit [0, 0] ls && px_fits [] st) (ac_readCrossing_92 h)), (93, fun ls st h => px_if (px_fit [0, 0] ls && px_fits [1] st) (ac_readCrossing_93 (px_si st 0) h))]) (ac_readCrossing_orc_ok) pX_ok_RX0 ac_readCrossing_code_ok (px_k1 (px_ko (ts := [0, 0]) (ss := []) fun ls st h q e => ac_readCrossing_92_ok _ _ e) (px_k1 (px_ko (ts := [0, 0]) (ss := [1]) fun ls st h q e => ac_readCrossing_93_ok _ _ _ e) px_k0)) 55 52 _ _ h q e
set_option maxRecDepth 200000 in
theorem ac_readCrossing_ok {d : Nat} {h : pH} {q : Int32 × pH} (e : ac_readCrossing h = some q) : px_Con (d + 4) 3 [.inr (.inl 43), .inr (.inl 1)] h q :=
  px_con (X := pX_RX0) (b := prog_2_method_5_code) (nL := 2) (rt := (some .boolean)) rfl rfl (Nat.le_of_ble_eq_true rfl) rfl (px_blk_ok (d := d + 3) (M := (pX_RX0, prog_2_method_5_code, 2, (some .boolean))) (C := ac_readCrossing_orc) (code := ac_readCrossing_code) (ld := [52]) (kl := [(52, fun ls st h => px_if (px_fit [53, 11] ls && px_fits [] st) (ac_readCrossing_52 h))]) (ac_readCrossing_orc_ok) pX_ok_RX0 ac_readCrossing_code_ok (px_k1 (px_ko (ts := [53, 11]) (ss := []) fun ls st h q e => ac_readCrossing_52_ok _ _ e) px_k0) 55 0 _ _ _ q e)
/-! WordsUnsaid$Act.readNext(LWordsUnsaid$Text;)Z -/
noncomputable def ac_readNext_155 (s0 : Int32) (h : pH) : pR :=
  px_bz s0 h
noncomputable def ac_readNext_139 (s0 : Int32) (h : pH) : pR :=
  let h1 := px_w h 43 6 s0
  if (h1 43 6) = (px_c (-1)) then
    ac_readNext_155 (px_c 0) h1
  else
    ac_readNext_155 (px_c 1) h1
noncomputable def ac_readNext_115 (s0 : Int32) (h : pH) : pR :=
  let h1 := px_w h 43 4 s0
  if (h1 43 4) = (px_c (-1)) then
    ac_readNext_139 (px_c (-1)) h1
  else
    px_bind (tx_letter (px_c 113) (px_c 10) h1) fun z2 h3 =>
    ac_readNext_139 z2 h3
noncomputable def ac_readNext_49 (h : pH) : pR :=
  px_bind (tx_skip h) fun _ h2 =>
  px_bind (tx_letter (px_c 97) (px_c 6) h2) fun z3 h4 =>
  let h5 := px_w h4 43 3 z3
  if (h5 43 3) = (px_c (-1)) then
    px_bz (px_c 0) h5
  else
    if (h5 43 2) = (px_c 99) then
      px_bind (ac_readCrossing h5) fun z6 h7 =>
      px_bz z6 h7
    else
      if (h5 43 2) = (px_c 115) then
        ac_readNext_115 (h5 43 3) h5
      else
        px_bind (tx_letter (px_c 97) (px_c 6) h5) fun z8 h9 =>
        ac_readNext_115 z8 h9
noncomputable def ac_readNext (h : pH) : pR :=
  px_bind (tx_next h) fun z1 h2 =>
  let h3 := px_w h2 43 2 z1
  if (h3 43 2) = (px_c 99) then
    ac_readNext_49 h3
  else
    if (h3 43 2) = (px_c 115) then
      ac_readNext_49 h3
    else
      if (h3 43 2) = (px_c 118) then
        ac_readNext_49 h3
      else
        if (h3 43 2) = (px_c 119) then
          ac_readNext_49 h3
        else
          px_bind (tx_refuse h3) fun z4 h5 =>
          px_bz z4 h5
def ac_readNext_code : pCode := [(0, .aload_n 0, 1), (1, .aload_n 1, 1), (2, .invokevirtual 44, 3), (5, .putfield 41, 3), (8, .aload_n 0, 1), (9, .getfield 41, 3), (12, .bipush (99), 2), (14, .if_icmp .eq (35), 3), (17, .aload_n 0, 1), (18, .getfield 41, 3), (21, .bipush (115), 2), (23, .if_icmp .eq (26), 3), (26, .aload_n 0, 1), (27, .getfield 41, 3), (30, .bipush (118), 2), (32, .if_icmp .eq (17), 3), (35, .aload_n 0, 1), (36, .getfield 41, 3), (39, .bipush (119), 2), (41, .if_icmp .eq (8), 3), (44, .aload_n 1, 1), (45, .invokevirtual 47, 3), (48, .ireturn, 1), (49, .aload_n 1, 1), (50, .invokevirtual 50, 3), (53, .aload_n 0, 1), (54, .aload_n 1, 1), (55, .bipush (97), 2), (57, .bipush (6), 2), (59, .invokevirtual 53, 3), (62, .putfield 57, 3), (65, .aload_n 0, 1), (66, .getfield 57, 3), (69, .iconst (-1), 1), (70, .if_icmp .ne (5), 3), (73, .iconst 0, 1), (74, .ireturn, 1), (75, .aload_n 0, 1), (76, .getfield 41, 3), (79, .bipush (99), 2), (81, .if_icmp .ne (9), 3), (84, .aload_n 0, 1), (85, .aload_n 1, 1), (86, .invokevirtual 60, 3), (89, .ireturn, 1), (90, .aload_n 0, 1), (91, .aload_n 0, 1), (92, .getfield 41, 3), (95, .bipush (115), 2), (97, .if_icmp .ne (10), 3), (100, .aload_n 0, 1), (101, .getfield 57, 3), (104, .goto (11), 3), (107, .aload_n 1, 1), (108, .bipush (97), 2), (110, .bipush (6), 2), (112, .invokevirtual 53, 3), (115, .putfield 63, 3), (118, .aload_n 0, 1), (119, .aload_n 0, 1), (120, .getfield 63, 3), (123, .iconst (-1), 1), (124, .if_icmp .ne (7), 3), (127, .iconst (-1), 1), (128, .goto (11), 3), (131, .aload_n 1, 1), (132, .bipush (113), 2), (134, .bipush (10), 2), (136, .invokevirtual 53, 3), (139, .putfield 66, 3), (142, .aload_n 0, 1), (143, .getfield 66, 3), (146, .iconst (-1), 1), (147, .if_icmp .eq (7), 3), (150, .iconst 1, 1), (151, .goto (4), 3), (154, .iconst 0, 1), (155, .ireturn, 1)]
set_option maxRecDepth 200000 in
theorem ac_readNext_code_ok : px_code prog_2_method_4_code ac_readNext_code = true := by decide +kernel
noncomputable def ac_readNext_orc : pC := px_orc [(99, fun a h => match a with
    | [.inr (.inl 1), .inl v1, .inl v2] => tx_letter v1 v2 h
    | _ => none), (90, fun a h => match a with
    | [.inr (.inl 1)] => tx_skip h
    | _ => none), (3, fun a h => match a with
    | [.inr (.inl 43), .inr (.inl 1)] => ac_readCrossing h
    | _ => none), (89, fun a h => match a with
    | [.inr (.inl 1)] => tx_next h
    | _ => none), (93, fun a h => match a with
    | [.inr (.inl 1)] => tx_refuse h
    | _ => none)]
theorem ac_readNext_orc_ok {d : Nat} : px_Or (d + 4) (ac_readNext_orc) := px_orc_ok (by
  refine px_o1 (fun a h q e => by
    dsimp only at e
    split at e
    · exact tx_letter_ok (d := d + 2) e
    · cases e) ?_
  refine px_o1 (fun a h q e => by
    dsimp only at e
    split at e
    · exact tx_skip_ok (d := d + 3) e
    · cases e) ?_
  refine px_o1 (fun a h q e => by
    dsimp only at e
    split at e
    · exact ac_readCrossing_ok (d := d + 0) e
    · cases e) ?_
  refine px_o1 (fun a h q e => by
    dsimp only at e
    split at e
    · exact tx_next_ok (d := d + 3) e
    · cases e) ?_
  refine px_o1 (fun a h q e => by
    dsimp only at e
    split at e
    · exact tx_refuse_ok (d := d + 3) e
    · cases e) ?_
  exact px_o0)
set_option maxRecDepth 200000 in
theorem ac_readNext_155_ok {d : Nat} : ∀ (s0 : Int32) (h : pH) (q : Int32 × pH), ac_readNext_155 s0 h = some q → px_G (d + 4 + 1) (pX_RX0, prog_2_method_4_code, 2, (some .boolean)) 155 [none, none] [.inl s0] h q := by
  intro s0 h q e
  exact px_blk_ok (d := d + 4) (M := (pX_RX0, prog_2_method_4_code, 2, (some .boolean))) (C := ac_readNext_orc) (code := ac_readNext_code) (ld := []) (kl := []) (ac_readNext_orc_ok) pX_ok_RX0 ac_readNext_code_ok (px_k0) 83 155 _ _ h q e
set_option maxRecDepth 200000 in
theorem ac_readNext_139_ok {d : Nat} : ∀ (s0 : Int32) (h : pH) (q : Int32 × pH), ac_readNext_139 s0 h = some q → px_G (d + 4 + 1) (pX_RX0, prog_2_method_4_code, 2, (some .boolean)) 139 [some (.inr (.inl 43)), none] [.inl s0, .inr (.inl 43)] h q := by
  intro s0 h q e
  exact px_blk_ok (d := d + 4) (M := (pX_RX0, prog_2_method_4_code, 2, (some .boolean))) (C := ac_readNext_orc) (code := ac_readNext_code) (ld := [155]) (kl := [(155, fun ls st h => px_if (px_fit [0, 0] ls && px_fits [1] st) (ac_readNext_155 (px_si st 0) h))]) (ac_readNext_orc_ok) pX_ok_RX0 ac_readNext_code_ok (px_k1 (px_ko (ts := [0, 0]) (ss := [1]) fun ls st h q e => ac_readNext_155_ok _ _ _ e) px_k0) 83 139 _ _ h q e
set_option maxRecDepth 200000 in
theorem ac_readNext_115_ok {d : Nat} : ∀ (s0 : Int32) (h : pH) (q : Int32 × pH), ac_readNext_115 s0 h = some q → px_G (d + 4 + 1) (pX_RX0, prog_2_method_4_code, 2, (some .boolean)) 115 [some (.inr (.inl 43)), some (.inr (.inl 1))] [.inl s0, .inr (.inl 43)] h q := by
  intro s0 h q e
  exact px_blk_ok (d := d + 4) (M := (pX_RX0, prog_2_method_4_code, 2, (some .boolean))) (C := ac_readNext_orc) (code := ac_readNext_code) (ld := [139]) (kl := [(139, fun ls st h => px_if (px_fit [53, 0] ls && px_fits [1, 53] st) (ac_readNext_139 (px_si st 0) h))]) (ac_readNext_orc_ok) pX_ok_RX0 ac_readNext_code_ok (px_k1 (px_ko (ts := [53, 0]) (ss := [1, 53]) fun ls st h q e => ac_readNext_139_ok _ _ _ e) px_k0) 83 115 _ _ h q e
set_option maxRecDepth 200000 in
theorem ac_readNext_49_ok {d : Nat} : ∀ (h : pH) (q : Int32 × pH), ac_readNext_49 h = some q → px_G (d + 4 + 1) (pX_RX0, prog_2_method_4_code, 2, (some .boolean)) 49 [some (.inr (.inl 43)), some (.inr (.inl 1))] [] h q := by
  intro h q e
  exact px_blk_ok (d := d + 4) (M := (pX_RX0, prog_2_method_4_code, 2, (some .boolean))) (C := ac_readNext_orc) (code := ac_readNext_code) (ld := [115]) (kl := [(115, fun ls st h => px_if (px_fit [53, 11] ls && px_fits [1, 53] st) (ac_readNext_115 (px_si st 0) h))]) (ac_readNext_orc_ok) pX_ok_RX0 ac_readNext_code_ok (px_k1 (px_ko (ts := [53, 11]) (ss := [1, 53]) fun ls st h q e => ac_readNext_115_ok _ _ _ e) px_k0) 83 49 _ _ h q e
set_option maxRecDepth 200000 in
theorem ac_readNext_ok {d : Nat} {h : pH} {q : Int32 × pH} (e : ac_readNext h = some q) : px_Con (d + 5) 2 [.inr (.inl 43), .inr (.inl 1)] h q :=
  px_con (X := pX_RX0) (b := prog_2_method_4_code) (nL := 2) (rt := (some .boolean)) rfl rfl (Nat.le_of_ble_eq_true rfl) rfl (px_blk_ok (d := d + 4) (M := (pX_RX0, prog_2_method_4_code, 2, (some .boolean))) (C := ac_readNext_orc) (code := ac_readNext_code) (ld := [49]) (kl := [(49, fun ls st h => px_if (px_fit [53, 11] ls && px_fits [] st) (ac_readNext_49 h))]) (ac_readNext_orc_ok) pX_ok_RX0 ac_readNext_code_ok (px_k1 (px_ko (ts := [53, 11]) (ss := []) fun ls st h q e => ac_readNext_49_ok _ _ e) px_k0) 83 0 _ _ _ q e)
/-! WordsUnsaid$Act.check(LWordsUnsaid$Text;)I -/
noncomputable def ac_check_60 (s0 : Int32) (h : pH) : pR :=
  some (s0, h)
noncomputable def ac_check_17 : Nat → Int32 → pH → pR
  | 0, _, _ => none
  | n + 1, x2, h =>
    if (px_c 60) < x2 then
      some (px_c (-1), h)
    else
      px_bind (ac_readNext h) fun z1 h2 =>
      if z1 = 0 then
        px_bind (tx_answer h2) fun z3 h4 =>
        some (z3, h4)
      else
        px_bind (tx_meet (px_c 59) h2) fun z5 h6 =>
        if z5 = 0 then
          px_bind (tx_closes h6) fun z7 h8 =>
          if z7 = 0 then
            px_bind (tx_answer h8) fun z9 h10 =>
            ac_check_60 z9 h10
          else
            ac_check_60 x2 h8
        else
          ac_check_17 n (x2 + px_c 1) h6
noncomputable def ac_check (h : pH) : pR :=
  if (h 1 1) = 0 then
    some (px_c 0, h)
  else
    px_bind (tx_open (px_c 60) h) fun _ h2 =>
    ac_check_17 px_F (px_c 1) h2
def ac_check_code : pCode := [(0, .aload_n 1, 1), (1, .getfield 15, 3), (4, .ifCond .ne (5), 3), (7, .iconst 0, 1), (8, .ireturn, 1), (9, .aload_n 1, 1), (10, .bipush (60), 2), (12, .invokevirtual 21, 3), (15, .iconst 1, 1), (16, .istore_n 2, 1), (17, .iload_n 2, 1), (18, .bipush (60), 2), (20, .if_icmp .gt (47), 3), (23, .aload_n 0, 1), (24, .aload_n 1, 1), (25, .invokevirtual 25, 3), (28, .ifCond .ne (8), 3), (31, .aload_n 1, 1), (32, .invokevirtual 29, 3), (35, .ireturn, 1), (36, .aload_n 1, 1), (37, .bipush (59), 2), (39, .invokevirtual 33, 3), (42, .ifCond .ne (19), 3), (45, .aload_n 1, 1), (46, .invokevirtual 37, 3), (49, .ifCond .eq (7), 3), (52, .iload_n 2, 1), (53, .goto (7), 3), (56, .aload_n 1, 1), (57, .invokevirtual 29, 3), (60, .ireturn, 1), (61, .iinc 2 (1), 3), (64, .goto (-47), 3), (67, .iconst (-1), 1), (68, .ireturn, 1)]
set_option maxRecDepth 200000 in
theorem ac_check_code_ok : px_code prog_2_method_2_code ac_check_code = true := by decide +kernel
noncomputable def ac_check_orc : pC := px_orc [(2, fun a h => match a with
    | [.inr (.inl 43), .inr (.inl 1)] => ac_readNext h
    | _ => none), (95, fun a h => match a with
    | [.inr (.inl 1)] => tx_answer h
    | _ => none), (91, fun a h => match a with
    | [.inr (.inl 1), .inl v1] => tx_meet v1 h
    | _ => none), (96, fun a h => match a with
    | [.inr (.inl 1)] => tx_closes h
    | _ => none), (88, fun a h => match a with
    | [.inr (.inl 1), .inl v1] => tx_open v1 h
    | _ => none)]
theorem ac_check_orc_ok {d : Nat} : px_Or (d + 5) (ac_check_orc) := px_orc_ok (by
  refine px_o1 (fun a h q e => by
    dsimp only at e
    split at e
    · exact ac_readNext_ok (d := d + 0) e
    · cases e) ?_
  refine px_o1 (fun a h q e => by
    dsimp only at e
    split at e
    · exact tx_answer_ok (d := d + 4) e
    · cases e) ?_
  refine px_o1 (fun a h q e => by
    dsimp only at e
    split at e
    · exact tx_meet_ok (d := d + 3) e
    · cases e) ?_
  refine px_o1 (fun a h q e => by
    dsimp only at e
    split at e
    · exact tx_closes_ok (d := d + 3) e
    · cases e) ?_
  refine px_o1 (fun a h q e => by
    dsimp only at e
    split at e
    · exact tx_open_ok (d := d + 4) e
    · cases e) ?_
  exact px_o0)
set_option maxRecDepth 200000 in
theorem ac_check_60_ok {d : Nat} : ∀ (s0 : Int32) (h : pH) (q : Int32 × pH), ac_check_60 s0 h = some q → px_G (d + 5 + 1) (pX_RX0, prog_2_method_2_code, 3, (some .int)) 60 [none, none, none] [.inl s0] h q := by
  intro s0 h q e
  exact px_blk_ok (d := d + 5) (M := (pX_RX0, prog_2_method_2_code, 3, (some .int))) (C := ac_check_orc) (code := ac_check_code) (ld := []) (kl := []) (ac_check_orc_ok) pX_ok_RX0 ac_check_code_ok (px_k0) 41 60 _ _ h q e
set_option maxRecDepth 200000 in
theorem ac_check_17_ok {d : Nat} : ∀ (n : Nat) (x2 : Int32) (h : pH) (q : Int32 × pH), ac_check_17 n x2 h = some q → px_G (d + 5 + 1) (pX_RX0, prog_2_method_2_code, 3, (some .int)) 17 [some (.inr (.inl 43)), some (.inr (.inl 1)), some (.inl x2)] [] h q := by
  intro n
  induction n with
  | zero =>
    intro x2 h q e
    cases e
  | succ n ih =>
    intro x2 h q e
    exact px_blk_ok (d := d + 5) (M := (pX_RX0, prog_2_method_2_code, 3, (some .int))) (C := ac_check_orc) (code := ac_check_code) (ld := [17, 60]) (kl := [(17, fun ls st h => px_if (px_fit [53, 11, 1] ls && px_fits [] st) (ac_check_17 n (px_gi ls 2) h)), (60, fun ls st h => px_if (px_fit [0, 0, 0] ls && px_fits [1] st) (ac_check_60 (px_si st 0) h))]) (ac_check_orc_ok) pX_ok_RX0 ac_check_code_ok (px_k1 (px_ko (ts := [53, 11, 1]) (ss := []) fun ls st h q e => ih _ _ _ e) (px_k1 (px_ko (ts := [0, 0, 0]) (ss := [1]) fun ls st h q e => ac_check_60_ok _ _ _ e) px_k0)) 41 17 _ _ h q e
set_option maxRecDepth 200000 in
theorem ac_check_ok {d : Nat} {h : pH} {q : Int32 × pH} (e : ac_check h = some q) : px_Con (d + 6) 0 [.inr (.inl 43), .inr (.inl 1)] h q :=
  px_con (X := pX_RX0) (b := prog_2_method_2_code) (nL := 3) (rt := (some .int)) rfl rfl (Nat.le_of_ble_eq_true rfl) rfl (px_blk_ok (d := d + 5) (M := (pX_RX0, prog_2_method_2_code, 3, (some .int))) (C := ac_check_orc) (code := ac_check_code) (ld := [17]) (kl := [(17, fun ls st h => px_if (px_fit [53, 11, 1] ls && px_fits [] st) (ac_check_17 px_F (px_gi ls 2) h))]) (ac_check_orc_ok) pX_ok_RX0 ac_check_code_ok (px_k1 (px_ko (ts := [53, 11, 1]) (ss := []) fun ls st h q e => ac_check_17_ok _ _ _ _ e) px_k0) 41 0 _ _ _ q e)
/-! WordsUnsaid$Act.isCrossing()Z -/
noncomputable def ac_isCrossing_14 (s0 : Int32) (h : pH) : pR :=
  px_bz s0 h
noncomputable def ac_isCrossing (h : pH) : pR :=
  if (h 43 2) = (px_c 99) then
    ac_isCrossing_14 (px_c 1) h
  else
    ac_isCrossing_14 (px_c 0) h
def ac_isCrossing_code : pCode := [(0, .aload_n 0, 1), (1, .getfield 41, 3), (4, .bipush (99), 2), (6, .if_icmp .ne (7), 3), (9, .iconst 1, 1), (10, .goto (4), 3), (13, .iconst 0, 1), (14, .ireturn, 1)]
set_option maxRecDepth 200000 in
theorem ac_isCrossing_code_ok : px_code prog_2_method_3_code ac_isCrossing_code = true := by decide +kernel
noncomputable def ac_isCrossing_orc : pC := px_orc []
theorem ac_isCrossing_orc_ok {d : Nat} : px_Or (d + 0) (ac_isCrossing_orc) := px_orc_ok (by
  exact px_o0)
set_option maxRecDepth 200000 in
theorem ac_isCrossing_14_ok {d : Nat} : ∀ (s0 : Int32) (h : pH) (q : Int32 × pH), ac_isCrossing_14 s0 h = some q → px_G (d + 0 + 1) (pX_RX0, prog_2_method_3_code, 1, (some .boolean)) 14 [none] [.inl s0] h q := by
  intro s0 h q e
  exact px_blk_ok (d := d + 0) (M := (pX_RX0, prog_2_method_3_code, 1, (some .boolean))) (C := ac_isCrossing_orc) (code := ac_isCrossing_code) (ld := []) (kl := []) (ac_isCrossing_orc_ok) pX_ok_RX0 ac_isCrossing_code_ok (px_k0) 13 14 _ _ h q e
set_option maxRecDepth 200000 in
theorem ac_isCrossing_ok {d : Nat} {h : pH} {q : Int32 × pH} (e : ac_isCrossing h = some q) : px_Con (d + 1) 1 [.inr (.inl 43)] h q :=
  px_con (X := pX_RX0) (b := prog_2_method_3_code) (nL := 1) (rt := (some .boolean)) rfl rfl (Nat.le_of_ble_eq_true rfl) rfl (px_blk_ok (d := d + 0) (M := (pX_RX0, prog_2_method_3_code, 1, (some .boolean))) (C := ac_isCrossing_orc) (code := ac_isCrossing_code) (ld := [14]) (kl := [(14, fun ls st h => px_if (px_fit [0] ls && px_fits [1] st) (ac_isCrossing_14 (px_si st 0) h))]) (ac_isCrossing_orc_ok) pX_ok_RX0 ac_isCrossing_code_ok (px_k1 (px_ko (ts := [0]) (ss := [1]) fun ls st h q e => ac_isCrossing_14_ok _ _ _ e) px_k0) 13 0 _ _ _ q e)
/-! WordsUnsaid$Fleet.clear()V -/
noncomputable def fl_clear_2 : Nat → Int32 → pH → pR
  | 0, _, _ => none
  | n + 1, x1, h =>
    if (px_c 6) ≤ x1 then
      some (0, h)
    else
      px_bind (wu_put 48 x1 (px_c 0) h) fun _ h2 =>
      fl_clear_2 n (x1 + px_c 1) h2
noncomputable def fl_clear (h : pH) : pR :=
  fl_clear_2 px_F (px_c 0) h
def fl_clear_code : pCode := [(0, .iconst 0, 1), (1, .istore_n 1, 1), (2, .iload_n 1, 1), (3, .bipush (6), 2), (5, .if_icmp .ge (18), 3), (8, .aload_n 0, 1), (9, .getfield 9, 3), (12, .iload_n 1, 1), (13, .iconst 0, 1), (14, .invokestatic 21, 3), (17, .iinc 1 (1), 3), (20, .goto (-18), 3), (23, .return_, 1)]
set_option maxRecDepth 200000 in
theorem fl_clear_code_ok : px_code prog_4_method_2_code fl_clear_code = true := by decide +kernel
noncomputable def fl_clear_orc : pC := px_orc [(159, fun a h => match a with
    | [.inr (.inl v0), .inl v1, .inl v2] => wu_put v0 v1 v2 h
    | _ => none)]
theorem fl_clear_orc_ok {d : Nat} : px_Or (d + 1) (fl_clear_orc) := px_orc_ok (by
  refine px_o1 (fun a h q e => by
    dsimp only at e
    split at e
    · exact wu_put_ok (d := d + 0) e
    · cases e) ?_
  exact px_o0)
set_option maxRecDepth 200000 in
theorem fl_clear_2_ok {d : Nat} : ∀ (n : Nat) (x1 : Int32) (h : pH) (q : Int32 × pH), fl_clear_2 n x1 h = some q → px_G (d + 1 + 1) (pX_RX2, prog_4_method_2_code, 2, none) 2 [some (.inr (.inl 47)), some (.inl x1)] [] h q := by
  intro n
  induction n with
  | zero =>
    intro x1 h q e
    cases e
  | succ n ih =>
    intro x1 h q e
    exact px_blk_ok (d := d + 1) (M := (pX_RX2, prog_4_method_2_code, 2, none)) (C := fl_clear_orc) (code := fl_clear_code) (ld := [2]) (kl := [(2, fun ls st h => px_if (px_fit [57, 1] ls && px_fits [] st) (fl_clear_2 n (px_gi ls 1) h))]) (fl_clear_orc_ok) pX_ok_RX2 fl_clear_code_ok (px_k1 (px_ko (ts := [57, 1]) (ss := []) fun ls st h q e => ih _ _ _ e) px_k0) 18 2 _ _ h q e
set_option maxRecDepth 200000 in
theorem fl_clear_ok {d : Nat} {h : pH} {q : Int32 × pH} (e : fl_clear h = some q) : px_Con (d + 2) 14 [.inr (.inl 47)] h q :=
  px_con (X := pX_RX2) (b := prog_4_method_2_code) (nL := 2) (rt := none) rfl rfl (Nat.le_of_ble_eq_true rfl) rfl (px_blk_ok (d := d + 1) (M := (pX_RX2, prog_4_method_2_code, 2, none)) (C := fl_clear_orc) (code := fl_clear_code) (ld := [2]) (kl := [(2, fun ls st h => px_if (px_fit [57, 1] ls && px_fits [] st) (fl_clear_2 px_F (px_gi ls 1) h))]) (fl_clear_orc_ok) pX_ok_RX2 fl_clear_code_ok (px_k1 (px_ko (ts := [57, 1]) (ss := []) fun ls st h q e => fl_clear_2_ok _ _ _ _ e) px_k0) 18 0 _ _ _ q e)
/-! WordsUnsaid$Fleet.pair(IIZ)V -/
noncomputable def fl_pair_24 (s0 : Int32) (s1 : Int32) (s2 : Int32) (h : pH) : pR :=
  px_bind (wu_put 48 s2 (s1 ||| s0) h) fun _ h2 =>
  some (0, h2)
noncomputable def fl_pair (x1 : Int32) (x2 : Int32) (x3 : Int32) (h : pH) : pR :=
  px_bind (wu_at 48 x1 h) fun z1 h2 =>
  if x3 = 0 then
    fl_pair_24 (px_c 0) z1 x1 h2
  else
    fl_pair_24 ((px_c 1) <<< (x2 &&& 31)) z1 x1 h2
def fl_pair_code : pCode := [(0, .aload_n 0, 1), (1, .getfield 9, 3), (4, .iload_n 1, 1), (5, .aload_n 0, 1), (6, .getfield 9, 3), (9, .iload_n 1, 1), (10, .invokestatic 25, 3), (13, .iload_n 3, 1), (14, .ifCond .eq (9), 3), (17, .iconst 1, 1), (18, .iload_n 2, 1), (19, .ishl, 1), (20, .goto (4), 3), (23, .iconst 0, 1), (24, .ior, 1), (25, .invokestatic 21, 3), (28, .return_, 1)]
set_option maxRecDepth 200000 in
theorem fl_pair_code_ok : px_code prog_4_method_3_code fl_pair_code = true := by decide +kernel
noncomputable def fl_pair_orc : pC := px_orc [(159, fun a h => match a with
    | [.inr (.inl v0), .inl v1, .inl v2] => wu_put v0 v1 v2 h
    | _ => none), (158, fun a h => match a with
    | [.inr (.inl v0), .inl v1] => wu_at v0 v1 h
    | _ => none)]
theorem fl_pair_orc_ok {d : Nat} : px_Or (d + 1) (fl_pair_orc) := px_orc_ok (by
  refine px_o1 (fun a h q e => by
    dsimp only at e
    split at e
    · exact wu_put_ok (d := d + 0) e
    · cases e) ?_
  refine px_o1 (fun a h q e => by
    dsimp only at e
    split at e
    · exact wu_at_ok (d := d + 0) e
    · cases e) ?_
  exact px_o0)
set_option maxRecDepth 200000 in
theorem fl_pair_24_ok {d : Nat} : ∀ (s0 : Int32) (s1 : Int32) (s2 : Int32) (h : pH) (q : Int32 × pH), fl_pair_24 s0 s1 s2 h = some q → px_G (d + 1 + 1) (pX_RX2, prog_4_method_3_code, 4, none) 24 [none, none, none, none] [.inl s0, .inl s1, .inl s2, .inr (.inl 48)] h q := by
  intro s0 s1 s2 h q e
  exact px_blk_ok (d := d + 1) (M := (pX_RX2, prog_4_method_3_code, 4, none)) (C := fl_pair_orc) (code := fl_pair_code) (ld := []) (kl := []) (fl_pair_orc_ok) pX_ok_RX2 fl_pair_code_ok (px_k0) 22 24 _ _ h q e
set_option maxRecDepth 200000 in
theorem fl_pair_ok {d : Nat} {x1 : Int32} {x2 : Int32} {x3 : Int32} {h : pH} {q : Int32 × pH} (e : fl_pair x1 x2 x3 h = some q) : px_Con (d + 2) 15 [.inr (.inl 47), .inl x1, .inl x2, .inl x3] h q :=
  px_con (X := pX_RX2) (b := prog_4_method_3_code) (nL := 4) (rt := none) rfl rfl (Nat.le_of_ble_eq_true rfl) rfl (px_blk_ok (d := d + 1) (M := (pX_RX2, prog_4_method_3_code, 4, none)) (C := fl_pair_orc) (code := fl_pair_code) (ld := [24]) (kl := [(24, fun ls st h => px_if (px_fit [0, 0, 0, 0] ls && px_fits [1, 1, 1, 58] st) (fl_pair_24 (px_si st 0) (px_si st 1) (px_si st 2) h))]) (fl_pair_orc_ok) pX_ok_RX2 fl_pair_code_ok (px_k1 (px_ko (ts := [0, 0, 0, 0]) (ss := [1, 1, 1, 58]) fun ls st h q e => fl_pair_24_ok _ _ _ _ _ e) px_k0) 22 0 _ _ _ q e)
/-! WordsUnsaid$Fleet.without(III)I -/
noncomputable def fl_without (x0 : Int32) (x1 : Int32) (x2 : Int32) (h : pH) : pR :=
  some (x0 &&& ((((px_c 1) <<< (x1 &&& 31)) ||| ((px_c 1) <<< (x2 &&& 31))) ^^^ (px_c (-1))), h)
def fl_without_code : pCode := [(0, .iload_n 0, 1), (1, .iconst 1, 1), (2, .iload_n 1, 1), (3, .ishl, 1), (4, .iconst 1, 1), (5, .iload_n 2, 1), (6, .ishl, 1), (7, .ior, 1), (8, .iconst (-1), 1), (9, .ixor, 1), (10, .iand, 1), (11, .ireturn, 1)]
set_option maxRecDepth 200000 in
theorem fl_without_code_ok : px_code prog_4_method_5_code fl_without_code = true := by decide +kernel
noncomputable def fl_without_orc : pC := px_orc []
theorem fl_without_orc_ok {d : Nat} : px_Or (d + 0) (fl_without_orc) := px_orc_ok (by
  exact px_o0)
set_option maxRecDepth 200000 in
theorem fl_without_ok {d : Nat} {x0 : Int32} {x1 : Int32} {x2 : Int32} {h : pH} {q : Int32 × pH} (e : fl_without x0 x1 x2 h = some q) : px_Con (d + 1) 17 [.inl x0, .inl x1, .inl x2] h q :=
  px_con (X := pX_RX2) (b := prog_4_method_5_code) (nL := 3) (rt := (some .int)) rfl rfl (Nat.le_of_ble_eq_true rfl) rfl (px_blk_ok (d := d + 0) (M := (pX_RX2, prog_4_method_5_code, 3, (some .int))) (C := fl_without_orc) (code := fl_without_code) (ld := []) (kl := []) (fl_without_orc_ok) pX_ok_RX2 fl_without_code_ok (px_k0) 17 0 _ _ _ q e)
/-! WordsUnsaid$Fleet.countBoats(I)I -/
noncomputable def fl_countBoats_114 (x1 : Int32) (h : pH) : pR :=
  px_bind (wu_at 49 x1 h) fun z1 h2 =>
  some (z1, h2)
noncomputable def fl_countBoats_92 (r11 : Int32 → Int32 → pH → pR) (r37 : Int32 → Int32 → Int32 → Int32 → Int32 → pH → pR) (x1 : Int32) (x2 : Int32) (x3 : Int32) (x4 : Int32) (x5 : Int32) (h : pH) : pR :=
  r37 x1 x2 x3 x4 (x5 + px_c 1) h
noncomputable def fl_countBoats_37 (r11 : Int32 → Int32 → pH → pR) : Nat → Int32 → Int32 → Int32 → Int32 → Int32 → pH → pR
  | 0, _, _, _, _, _, _ => none
  | n + 1, x1, x2, x3, x4, x5, h =>
    if (px_c 6) ≤ x5 then
      px_bind (wu_put 49 x2 x4 h) fun _ h2 =>
      r11 x1 (x2 + px_c 1) h2
    else
      px_bind (wu_has x2 x5 h) fun z3 h4 =>
      if z3 = 0 then
        fl_countBoats_92 r11 (fl_countBoats_37 r11 n) x1 x2 x3 x4 x5 h4
      else
        px_bind (wu_at 48 x3 h4) fun z5 h6 =>
        px_bind (wu_has z5 x5 h6) fun z7 h8 =>
        if z7 = 0 then
          fl_countBoats_92 r11 (fl_countBoats_37 r11 n) x1 x2 x3 x4 x5 h8
        else
          px_bind (fl_without x2 x3 x5 h8) fun z9 h10 =>
          px_bind (wu_at 49 z9 h10) fun z11 h12 =>
          let y4_13 := px_min x4 ((px_c 1) + z11)
          fl_countBoats_92 r11 (fl_countBoats_37 r11 n) x1 x2 x3 y4_13 x5 h12
noncomputable def fl_countBoats_11 : Nat → Int32 → Int32 → pH → pR
  | 0, _, _, _ => none
  | n + 1, x1, x2, h =>
    if x1 < x2 then
      fl_countBoats_114 x1 h
    else
      if (nI (px_len 49)) ≤ x2 then
        fl_countBoats_114 x1 h
      else
        px_bind (wu_firstOf x2 h) fun z1 h2 =>
        fl_countBoats_37 (fl_countBoats_11 n) px_F x1 x2 z1 (px_c 7) z1 h2
noncomputable def fl_countBoats (x1 : Int32) (h : pH) : pR :=
  px_bind (wu_put 49 (px_c 0) (px_c 0) h) fun _ h2 =>
  fl_countBoats_11 px_F x1 (px_c 1) h2
def fl_countBoats_code : pCode := [(0, .aload_n 0, 1), (1, .getfield 15, 3), (4, .iconst 0, 1), (5, .iconst 0, 1), (6, .invokestatic 21, 3), (9, .iconst 1, 1), (10, .istore_n 2, 1), (11, .iload_n 2, 1), (12, .iload_n 1, 1), (13, .if_icmp .gt (101), 3), (16, .iload_n 2, 1), (17, .aload_n 0, 1), (18, .getfield 15, 3), (21, .arraylength, 1), (22, .if_icmp .ge (92), 3), (25, .iload_n 2, 1), (26, .invokestatic 29, 3), (29, .istore_n 3, 1), (30, .bipush (7), 2), (32, .istore 4, 2), (34, .iload_n 3, 1), (35, .istore 5, 2), (37, .iload 5, 2), (39, .bipush (6), 2), (41, .if_icmp .ge (57), 3), (44, .iload_n 2, 1), (45, .iload 5, 2), (47, .invokestatic 33, 3), (50, .ifCond .eq (42), 3), (53, .aload_n 0, 1), (54, .getfield 9, 3), (57, .iload_n 3, 1), (58, .invokestatic 25, 3), (61, .iload 5, 2), (63, .invokestatic 33, 3), (66, .ifCond .eq (26), 3), (69, .iload 4, 2), (71, .iconst 1, 1), (72, .aload_n 0, 1), (73, .getfield 15, 3), (76, .iload_n 2, 1), (77, .iload_n 3, 1), (78, .iload 5, 2), (80, .invokestatic 37, 3), (83, .invokestatic 25, 3), (86, .iadd, 1), (87, .invokestatic 41, 3), (90, .istore 4, 2), (92, .iinc 5 (1), 3), (95, .goto (-58), 3), (98, .aload_n 0, 1), (99, .getfield 15, 3), (102, .iload_n 2, 1), (103, .iload 4, 2), (105, .invokestatic 21, 3), (108, .iinc 2 (1), 3), (111, .goto (-100), 3), (114, .aload_n 0, 1), (115, .getfield 15, 3), (118, .iload_n 1, 1), (119, .invokestatic 25, 3), (122, .ireturn, 1)]
set_option maxRecDepth 200000 in
theorem fl_countBoats_code_ok : px_code prog_4_method_4_code fl_countBoats_code = true := by decide +kernel
noncomputable def fl_countBoats_orc : pC := px_orc [(158, fun a h => match a with
    | [.inr (.inl v0), .inl v1] => wu_at v0 v1 h
    | _ => none), (159, fun a h => match a with
    | [.inr (.inl v0), .inl v1, .inl v2] => wu_put v0 v1 v2 h
    | _ => none), (160, fun a h => match a with
    | [.inl v0, .inl v1] => wu_has v0 v1 h
    | _ => none), (17, fun a h => match a with
    | [.inl v0, .inl v1, .inl v2] => fl_without v0 v1 v2 h
    | _ => none), (161, fun a h => match a with
    | [.inl v0] => wu_firstOf v0 h
    | _ => none)]
theorem fl_countBoats_orc_ok {d : Nat} : px_Or (d + 2) (fl_countBoats_orc) := px_orc_ok (by
  refine px_o1 (fun a h q e => by
    dsimp only at e
    split at e
    · exact wu_at_ok (d := d + 1) e
    · cases e) ?_
  refine px_o1 (fun a h q e => by
    dsimp only at e
    split at e
    · exact wu_put_ok (d := d + 1) e
    · cases e) ?_
  refine px_o1 (fun a h q e => by
    dsimp only at e
    split at e
    · exact wu_has_ok (d := d + 1) e
    · cases e) ?_
  refine px_o1 (fun a h q e => by
    dsimp only at e
    split at e
    · exact fl_without_ok (d := d + 1) e
    · cases e) ?_
  refine px_o1 (fun a h q e => by
    dsimp only at e
    split at e
    · exact wu_firstOf_ok (d := d + 0) e
    · cases e) ?_
  exact px_o0)
set_option maxRecDepth 200000 in
theorem fl_countBoats_114_ok {d : Nat} : ∀ (x1 : Int32) (h : pH) (q : Int32 × pH), fl_countBoats_114 x1 h = some q → px_G (d + 2 + 1) (pX_RX2, prog_4_method_4_code, 6, (some .int)) 114 [some (.inr (.inl 47)), some (.inl x1), none, none, none, none] [] h q := by
  intro x1 h q e
  exact px_blk_ok (d := d + 2) (M := (pX_RX2, prog_4_method_4_code, 6, (some .int))) (C := fl_countBoats_orc) (code := fl_countBoats_code) (ld := []) (kl := []) (fl_countBoats_orc_ok) pX_ok_RX2 fl_countBoats_code_ok (px_k0) 67 114 _ _ h q e
set_option maxRecDepth 200000 in
theorem fl_countBoats_92_ok {d : Nat} {r11 : Int32 → Int32 → pH → pR} (hr11 : ∀ (x1 : Int32) (x2 : Int32) (h : pH) (q : Int32 × pH), r11 x1 x2 h = some q → px_G (d + 2 + 1) (pX_RX2, prog_4_method_4_code, 6, (some .int)) 11 [some (.inr (.inl 47)), some (.inl x1), some (.inl x2), none, none, none] [] h q) {r37 : Int32 → Int32 → Int32 → Int32 → Int32 → pH → pR} (hr37 : ∀ (x1 : Int32) (x2 : Int32) (x3 : Int32) (x4 : Int32) (x5 : Int32) (h : pH) (q : Int32 × pH), r37 x1 x2 x3 x4 x5 h = some q → px_G (d + 2 + 1) (pX_RX2, prog_4_method_4_code, 6, (some .int)) 37 [some (.inr (.inl 47)), some (.inl x1), some (.inl x2), some (.inl x3), some (.inl x4), some (.inl x5)] [] h q) : ∀ (x1 : Int32) (x2 : Int32) (x3 : Int32) (x4 : Int32) (x5 : Int32) (h : pH) (q : Int32 × pH), fl_countBoats_92 r11 r37 x1 x2 x3 x4 x5 h = some q → px_G (d + 2 + 1) (pX_RX2, prog_4_method_4_code, 6, (some .int)) 92 [some (.inr (.inl 47)), some (.inl x1), some (.inl x2), some (.inl x3), some (.inl x4), some (.inl x5)] [] h q := by
  intro x1 x2 x3 x4 x5 h q e
  exact px_blk_ok (d := d + 2) (M := (pX_RX2, prog_4_method_4_code, 6, (some .int))) (C := fl_countBoats_orc) (code := fl_countBoats_code) (ld := [37]) (kl := [(37, fun ls st h => px_if (px_fit [57, 1, 1, 1, 1, 1] ls && px_fits [] st) (r37 (px_gi ls 1) (px_gi ls 2) (px_gi ls 3) (px_gi ls 4) (px_gi ls 5) h))]) (fl_countBoats_orc_ok) pX_ok_RX2 fl_countBoats_code_ok (px_k1 (px_ko (ts := [57, 1, 1, 1, 1, 1]) (ss := []) fun ls st h q e => hr37 _ _ _ _ _ _ _ e) px_k0) 67 92 _ _ h q e
set_option maxRecDepth 200000 in
theorem fl_countBoats_37_ok {d : Nat} {r11 : Int32 → Int32 → pH → pR} (hr11 : ∀ (x1 : Int32) (x2 : Int32) (h : pH) (q : Int32 × pH), r11 x1 x2 h = some q → px_G (d + 2 + 1) (pX_RX2, prog_4_method_4_code, 6, (some .int)) 11 [some (.inr (.inl 47)), some (.inl x1), some (.inl x2), none, none, none] [] h q) : ∀ (n : Nat) (x1 : Int32) (x2 : Int32) (x3 : Int32) (x4 : Int32) (x5 : Int32) (h : pH) (q : Int32 × pH), fl_countBoats_37 r11 n x1 x2 x3 x4 x5 h = some q → px_G (d + 2 + 1) (pX_RX2, prog_4_method_4_code, 6, (some .int)) 37 [some (.inr (.inl 47)), some (.inl x1), some (.inl x2), some (.inl x3), some (.inl x4), some (.inl x5)] [] h q := by
  intro n
  induction n with
  | zero =>
    intro x1 x2 x3 x4 x5 h q e
    cases e
  | succ n ih =>
    intro x1 x2 x3 x4 x5 h q e
    exact px_blk_ok (d := d + 2) (M := (pX_RX2, prog_4_method_4_code, 6, (some .int))) (C := fl_countBoats_orc) (code := fl_countBoats_code) (ld := [11, 92]) (kl := [(11, fun ls st h => px_if (px_fit [57, 1, 1, 0, 0, 0] ls && px_fits [] st) (r11 (px_gi ls 1) (px_gi ls 2) h)), (92, fun ls st h => px_if (px_fit [57, 1, 1, 1, 1, 1] ls && px_fits [] st) (fl_countBoats_92 r11 (fl_countBoats_37 r11 n) (px_gi ls 1) (px_gi ls 2) (px_gi ls 3) (px_gi ls 4) (px_gi ls 5) h))]) (fl_countBoats_orc_ok) pX_ok_RX2 fl_countBoats_code_ok (px_k1 (px_ko (ts := [57, 1, 1, 0, 0, 0]) (ss := []) fun ls st h q e => hr11 _ _ _ _ e) (px_k1 (px_ko (ts := [57, 1, 1, 1, 1, 1]) (ss := []) fun ls st h q e => fl_countBoats_92_ok hr11 ih _ _ _ _ _ _ _ e) px_k0)) 67 37 _ _ h q e
set_option maxRecDepth 200000 in
theorem fl_countBoats_11_ok {d : Nat} : ∀ (n : Nat) (x1 : Int32) (x2 : Int32) (h : pH) (q : Int32 × pH), fl_countBoats_11 n x1 x2 h = some q → px_G (d + 2 + 1) (pX_RX2, prog_4_method_4_code, 6, (some .int)) 11 [some (.inr (.inl 47)), some (.inl x1), some (.inl x2), none, none, none] [] h q := by
  intro n
  induction n with
  | zero =>
    intro x1 x2 h q e
    cases e
  | succ n ih =>
    intro x1 x2 h q e
    exact px_blk_ok (d := d + 2) (M := (pX_RX2, prog_4_method_4_code, 6, (some .int))) (C := fl_countBoats_orc) (code := fl_countBoats_code) (ld := [37, 114]) (kl := [(37, fun ls st h => px_if (px_fit [57, 1, 1, 1, 1, 1] ls && px_fits [] st) (fl_countBoats_37 (fl_countBoats_11 n) px_F (px_gi ls 1) (px_gi ls 2) (px_gi ls 3) (px_gi ls 4) (px_gi ls 5) h)), (114, fun ls st h => px_if (px_fit [57, 1, 0, 0, 0, 0] ls && px_fits [] st) (fl_countBoats_114 (px_gi ls 1) h))]) (fl_countBoats_orc_ok) pX_ok_RX2 fl_countBoats_code_ok (px_k1 (px_ko (ts := [57, 1, 1, 1, 1, 1]) (ss := []) fun ls st h q e => fl_countBoats_37_ok ih _ _ _ _ _ _ _ _ e) (px_k1 (px_ko (ts := [57, 1, 0, 0, 0, 0]) (ss := []) fun ls st h q e => fl_countBoats_114_ok _ _ _ e) px_k0)) 67 11 _ _ h q e
set_option maxRecDepth 200000 in
theorem fl_countBoats_ok {d : Nat} {x1 : Int32} {h : pH} {q : Int32 × pH} (e : fl_countBoats x1 h = some q) : px_Con (d + 3) 16 [.inr (.inl 47), .inl x1] h q :=
  px_con (X := pX_RX2) (b := prog_4_method_4_code) (nL := 6) (rt := (some .int)) rfl rfl (Nat.le_of_ble_eq_true rfl) rfl (px_blk_ok (d := d + 2) (M := (pX_RX2, prog_4_method_4_code, 6, (some .int))) (C := fl_countBoats_orc) (code := fl_countBoats_code) (ld := [11]) (kl := [(11, fun ls st h => px_if (px_fit [57, 1, 1, 0, 0, 0] ls && px_fits [] st) (fl_countBoats_11 px_F (px_gi ls 1) (px_gi ls 2) h))]) (fl_countBoats_orc_ok) pX_ok_RX2 fl_countBoats_code_ok (px_k1 (px_ko (ts := [57, 1, 1, 0, 0, 0]) (ss := []) fun ls st h q e => fl_countBoats_11_ok _ _ _ _ _ e) px_k0) 67 0 _ _ _ q e)
/-! WordsUnsaid$Fleet.firstPartner(II)I -/
noncomputable def fl_firstPartner_59 (r2 : Int32 → Int32 → Int32 → pH → pR) (x1 : Int32) (x2 : Int32) (x3 : Int32) (h : pH) : pR :=
  r2 x1 x2 (x3 + px_c 1) h
noncomputable def fl_firstPartner_2 : Nat → Int32 → Int32 → Int32 → pH → pR
  | 0, _, _, _, _ => none
  | n + 1, x1, x2, x3, h =>
    if (px_c 6) ≤ x3 then
      some (x2, h)
    else
      px_bind (wu_has x1 x3 h) fun z1 h2 =>
      if z1 = 0 then
        fl_firstPartner_59 (fl_firstPartner_2 n) x1 x2 x3 h2
      else
        px_bind (wu_at 48 x2 h2) fun z3 h4 =>
        px_bind (wu_has z3 x3 h4) fun z5 h6 =>
        if z5 = 0 then
          fl_firstPartner_59 (fl_firstPartner_2 n) x1 x2 x3 h6
        else
          px_bind (fl_without x1 x2 x3 h6) fun z7 h8 =>
          px_bind (wu_at 49 z7 h8) fun z9 h10 =>
          px_bind (wu_at 49 x1 h10) fun z11 h12 =>
          if ((px_c 1) + z9) = z11 then
            some (x3, h12)
          else
            fl_firstPartner_59 (fl_firstPartner_2 n) x1 x2 x3 h12
noncomputable def fl_firstPartner (x1 : Int32) (x2 : Int32) (h : pH) : pR :=
  fl_firstPartner_2 px_F x1 x2 x2 h
def fl_firstPartner_code : pCode := [(0, .iload_n 2, 1), (1, .istore_n 3, 1), (2, .iload_n 3, 1), (3, .bipush (6), 2), (5, .if_icmp .ge (60), 3), (8, .iload_n 1, 1), (9, .iload_n 3, 1), (10, .invokestatic 33, 3), (13, .ifCond .eq (46), 3), (16, .aload_n 0, 1), (17, .getfield 9, 3), (20, .iload_n 2, 1), (21, .invokestatic 25, 3), (24, .iload_n 3, 1), (25, .invokestatic 33, 3), (28, .ifCond .eq (31), 3), (31, .iconst 1, 1), (32, .aload_n 0, 1), (33, .getfield 15, 3), (36, .iload_n 1, 1), (37, .iload_n 2, 1), (38, .iload_n 3, 1), (39, .invokestatic 37, 3), (42, .invokestatic 25, 3), (45, .iadd, 1), (46, .aload_n 0, 1), (47, .getfield 15, 3), (50, .iload_n 1, 1), (51, .invokestatic 25, 3), (54, .if_icmp .ne (5), 3), (57, .iload_n 3, 1), (58, .ireturn, 1), (59, .iinc 3 (1), 3), (62, .goto (-60), 3), (65, .iload_n 2, 1), (66, .ireturn, 1)]
set_option maxRecDepth 200000 in
theorem fl_firstPartner_code_ok : px_code prog_4_method_7_code fl_firstPartner_code = true := by decide +kernel
noncomputable def fl_firstPartner_orc : pC := px_orc [(160, fun a h => match a with
    | [.inl v0, .inl v1] => wu_has v0 v1 h
    | _ => none), (158, fun a h => match a with
    | [.inr (.inl v0), .inl v1] => wu_at v0 v1 h
    | _ => none), (17, fun a h => match a with
    | [.inl v0, .inl v1, .inl v2] => fl_without v0 v1 v2 h
    | _ => none)]
theorem fl_firstPartner_orc_ok {d : Nat} : px_Or (d + 1) (fl_firstPartner_orc) := px_orc_ok (by
  refine px_o1 (fun a h q e => by
    dsimp only at e
    split at e
    · exact wu_has_ok (d := d + 0) e
    · cases e) ?_
  refine px_o1 (fun a h q e => by
    dsimp only at e
    split at e
    · exact wu_at_ok (d := d + 0) e
    · cases e) ?_
  refine px_o1 (fun a h q e => by
    dsimp only at e
    split at e
    · exact fl_without_ok (d := d + 0) e
    · cases e) ?_
  exact px_o0)
set_option maxRecDepth 200000 in
theorem fl_firstPartner_59_ok {d : Nat} {r2 : Int32 → Int32 → Int32 → pH → pR} (hr2 : ∀ (x1 : Int32) (x2 : Int32) (x3 : Int32) (h : pH) (q : Int32 × pH), r2 x1 x2 x3 h = some q → px_G (d + 1 + 1) (pX_RX2, prog_4_method_7_code, 4, (some .int)) 2 [some (.inr (.inl 47)), some (.inl x1), some (.inl x2), some (.inl x3)] [] h q) : ∀ (x1 : Int32) (x2 : Int32) (x3 : Int32) (h : pH) (q : Int32 × pH), fl_firstPartner_59 r2 x1 x2 x3 h = some q → px_G (d + 1 + 1) (pX_RX2, prog_4_method_7_code, 4, (some .int)) 59 [some (.inr (.inl 47)), some (.inl x1), some (.inl x2), some (.inl x3)] [] h q := by
  intro x1 x2 x3 h q e
  exact px_blk_ok (d := d + 1) (M := (pX_RX2, prog_4_method_7_code, 4, (some .int))) (C := fl_firstPartner_orc) (code := fl_firstPartner_code) (ld := [2]) (kl := [(2, fun ls st h => px_if (px_fit [57, 1, 1, 1] ls && px_fits [] st) (r2 (px_gi ls 1) (px_gi ls 2) (px_gi ls 3) h))]) (fl_firstPartner_orc_ok) pX_ok_RX2 fl_firstPartner_code_ok (px_k1 (px_ko (ts := [57, 1, 1, 1]) (ss := []) fun ls st h q e => hr2 _ _ _ _ _ e) px_k0) 41 59 _ _ h q e
set_option maxRecDepth 200000 in
theorem fl_firstPartner_2_ok {d : Nat} : ∀ (n : Nat) (x1 : Int32) (x2 : Int32) (x3 : Int32) (h : pH) (q : Int32 × pH), fl_firstPartner_2 n x1 x2 x3 h = some q → px_G (d + 1 + 1) (pX_RX2, prog_4_method_7_code, 4, (some .int)) 2 [some (.inr (.inl 47)), some (.inl x1), some (.inl x2), some (.inl x3)] [] h q := by
  intro n
  induction n with
  | zero =>
    intro x1 x2 x3 h q e
    cases e
  | succ n ih =>
    intro x1 x2 x3 h q e
    exact px_blk_ok (d := d + 1) (M := (pX_RX2, prog_4_method_7_code, 4, (some .int))) (C := fl_firstPartner_orc) (code := fl_firstPartner_code) (ld := [59]) (kl := [(59, fun ls st h => px_if (px_fit [57, 1, 1, 1] ls && px_fits [] st) (fl_firstPartner_59 (fl_firstPartner_2 n) (px_gi ls 1) (px_gi ls 2) (px_gi ls 3) h))]) (fl_firstPartner_orc_ok) pX_ok_RX2 fl_firstPartner_code_ok (px_k1 (px_ko (ts := [57, 1, 1, 1]) (ss := []) fun ls st h q e => fl_firstPartner_59_ok ih _ _ _ _ _ e) px_k0) 41 2 _ _ h q e
set_option maxRecDepth 200000 in
theorem fl_firstPartner_ok {d : Nat} {x1 : Int32} {x2 : Int32} {h : pH} {q : Int32 × pH} (e : fl_firstPartner x1 x2 h = some q) : px_Con (d + 2) 19 [.inr (.inl 47), .inl x1, .inl x2] h q :=
  px_con (X := pX_RX2) (b := prog_4_method_7_code) (nL := 4) (rt := (some .int)) rfl rfl (Nat.le_of_ble_eq_true rfl) rfl (px_blk_ok (d := d + 1) (M := (pX_RX2, prog_4_method_7_code, 4, (some .int))) (C := fl_firstPartner_orc) (code := fl_firstPartner_code) (ld := [2]) (kl := [(2, fun ls st h => px_if (px_fit [57, 1, 1, 1] ls && px_fits [] st) (fl_firstPartner_2 px_F (px_gi ls 1) (px_gi ls 2) (px_gi ls 3) h))]) (fl_firstPartner_orc_ok) pX_ok_RX2 fl_firstPartner_code_ok (px_k1 (px_ko (ts := [57, 1, 1, 1]) (ss := []) fun ls st h q e => fl_firstPartner_2_ok _ _ _ _ _ _ e) px_k0) 41 0 _ _ _ q e)
/-! WordsUnsaid$Fleet.tellBoats(ILWordsUnsaid$Tale;)V -/
noncomputable def fl_tellBoats_103 (r74 : Int32 → Int32 → pH → pR) (x1 : Int32) (x4 : Int32) (h : pH) : pR :=
  r74 x1 (x4 + px_c 1) h
noncomputable def fl_tellBoats_74 : Nat → Int32 → Int32 → pH → pR
  | 0, _, _, _ => none
  | n + 1, x1, x4, h =>
    if (px_c 6) ≤ x4 then
      some (0, h)
    else
      px_bind (wu_has x1 x4 h) fun z1 h2 =>
      if z1 = 0 then
        fl_tellBoats_103 (fl_tellBoats_74 n) x1 x4 h2
      else
        px_bind (wu_at 50 x4 h2) fun z3 h4 =>
        px_bind (tl_add z3 h4) fun _ h6 =>
        fl_tellBoats_103 (fl_tellBoats_74 n) x1 x4 h6
noncomputable def fl_tellBoats_61 (r5 : Int32 → Int32 → Int32 → pH → pR) (x1 : Int32) (x3 : Int32) (x4 : Int32) (h : pH) : pR :=
  r5 x1 x3 (x4 + px_c 1) h
noncomputable def fl_tellBoats_5 : Nat → Int32 → Int32 → Int32 → pH → pR
  | 0, _, _, _, _ => none
  | n + 1, x1, x3, x4, h =>
    if (px_c 6) ≤ x4 then
      px_bind (tl_clear h) fun _ h2 =>
      fl_tellBoats_74 px_F x1 (px_c 0) h2
    else
      px_bind (wu_has x3 x4 h) fun z3 h4 =>
      if z3 = 0 then
        fl_tellBoats_61 (fl_tellBoats_5 n) x1 x3 x4 h4
      else
        px_bind (fl_firstPartner x3 x4 h4) fun z5 h6 =>
        px_bind (wu_put 50 x4 z5 h6) fun _ h8 =>
        px_bind (wu_put 50 z5 x4 h8) fun _ h10 =>
        px_bind (fl_without x3 x4 z5 h10) fun z11 h12 =>
        fl_tellBoats_61 (fl_tellBoats_5 n) x1 z11 x4 h12
noncomputable def fl_tellBoats (x1 : Int32) (h : pH) : pR :=
  fl_tellBoats_5 px_F x1 x1 (px_c 0) h
def fl_tellBoats_code : pCode := [(0, .iload_n 1, 1), (1, .istore_n 3, 1), (2, .iconst 0, 1), (3, .istore 4, 2), (5, .iload 4, 2), (7, .bipush (6), 2), (9, .if_icmp .ge (58), 3), (12, .iload_n 3, 1), (13, .iload 4, 2), (15, .invokestatic 33, 3), (18, .ifCond .eq (43), 3), (21, .aload_n 0, 1), (22, .iload_n 3, 1), (23, .iload 4, 2), (25, .invokevirtual 47, 3), (28, .istore 5, 2), (30, .aload_n 0, 1), (31, .getfield 18, 3), (34, .iload 4, 2), (36, .iload 5, 2), (38, .invokestatic 21, 3), (41, .aload_n 0, 1), (42, .getfield 18, 3), (45, .iload 5, 2), (47, .iload 4, 2), (49, .invokestatic 21, 3), (52, .iload_n 3, 1), (53, .iload 4, 2), (55, .iload 5, 2), (57, .invokestatic 37, 3), (60, .istore_n 3, 1), (61, .iinc 4 (1), 3), (64, .goto (-59), 3), (67, .aload_n 2, 1), (68, .invokevirtual 50, 3), (71, .iconst 0, 1), (72, .istore 4, 2), (74, .iload 4, 2), (76, .bipush (6), 2), (78, .if_icmp .ge (31), 3), (81, .iload_n 1, 1), (82, .iload 4, 2), (84, .invokestatic 33, 3), (87, .ifCond .eq (16), 3), (90, .aload_n 2, 1), (91, .aload_n 0, 1), (92, .getfield 18, 3), (95, .iload 4, 2), (97, .invokestatic 25, 3), (100, .invokevirtual 55, 3), (103, .iinc 4 (1), 3), (106, .goto (-32), 3), (109, .return_, 1)]
set_option maxRecDepth 200000 in
theorem fl_tellBoats_code_ok : px_code prog_4_method_6_code fl_tellBoats_code = true := by decide +kernel
noncomputable def fl_tellBoats_orc : pC := px_orc [(160, fun a h => match a with
    | [.inl v0, .inl v1] => wu_has v0 v1 h
    | _ => none), (158, fun a h => match a with
    | [.inr (.inl v0), .inl v1] => wu_at v0 v1 h
    | _ => none), (82, fun a h => match a with
    | [.inr (.inl 45), .inl v1] => tl_add v1 h
    | _ => none), (81, fun a h => match a with
    | [.inr (.inl 45)] => tl_clear h
    | _ => none), (19, fun a h => match a with
    | [.inr (.inl 47), .inl v1, .inl v2] => fl_firstPartner v1 v2 h
    | _ => none), (159, fun a h => match a with
    | [.inr (.inl v0), .inl v1, .inl v2] => wu_put v0 v1 v2 h
    | _ => none), (17, fun a h => match a with
    | [.inl v0, .inl v1, .inl v2] => fl_without v0 v1 v2 h
    | _ => none)]
theorem fl_tellBoats_orc_ok {d : Nat} : px_Or (d + 2) (fl_tellBoats_orc) := px_orc_ok (by
  refine px_o1 (fun a h q e => by
    dsimp only at e
    split at e
    · exact wu_has_ok (d := d + 1) e
    · cases e) ?_
  refine px_o1 (fun a h q e => by
    dsimp only at e
    split at e
    · exact wu_at_ok (d := d + 1) e
    · cases e) ?_
  refine px_o1 (fun a h q e => by
    dsimp only at e
    split at e
    · exact tl_add_ok (d := d + 0) e
    · cases e) ?_
  refine px_o1 (fun a h q e => by
    dsimp only at e
    split at e
    · exact tl_clear_ok (d := d + 1) e
    · cases e) ?_
  refine px_o1 (fun a h q e => by
    dsimp only at e
    split at e
    · exact fl_firstPartner_ok (d := d + 0) e
    · cases e) ?_
  refine px_o1 (fun a h q e => by
    dsimp only at e
    split at e
    · exact wu_put_ok (d := d + 1) e
    · cases e) ?_
  refine px_o1 (fun a h q e => by
    dsimp only at e
    split at e
    · exact fl_without_ok (d := d + 1) e
    · cases e) ?_
  exact px_o0)
set_option maxRecDepth 200000 in
theorem fl_tellBoats_103_ok {d : Nat} {r74 : Int32 → Int32 → pH → pR} (hr74 : ∀ (x1 : Int32) (x4 : Int32) (h : pH) (q : Int32 × pH), r74 x1 x4 h = some q → px_G (d + 2 + 1) (pX_RX2, prog_4_method_6_code, 6, none) 74 [some (.inr (.inl 47)), some (.inl x1), some (.inr (.inl 45)), none, some (.inl x4), none] [] h q) : ∀ (x1 : Int32) (x4 : Int32) (h : pH) (q : Int32 × pH), fl_tellBoats_103 r74 x1 x4 h = some q → px_G (d + 2 + 1) (pX_RX2, prog_4_method_6_code, 6, none) 103 [some (.inr (.inl 47)), some (.inl x1), some (.inr (.inl 45)), none, some (.inl x4), none] [] h q := by
  intro x1 x4 h q e
  exact px_blk_ok (d := d + 2) (M := (pX_RX2, prog_4_method_6_code, 6, none)) (C := fl_tellBoats_orc) (code := fl_tellBoats_code) (ld := [74]) (kl := [(74, fun ls st h => px_if (px_fit [57, 1, 55, 0, 1, 0] ls && px_fits [] st) (r74 (px_gi ls 1) (px_gi ls 4) h))]) (fl_tellBoats_orc_ok) pX_ok_RX2 fl_tellBoats_code_ok (px_k1 (px_ko (ts := [57, 1, 55, 0, 1, 0]) (ss := []) fun ls st h q e => hr74 _ _ _ _ e) px_k0) 58 103 _ _ h q e
set_option maxRecDepth 200000 in
theorem fl_tellBoats_74_ok {d : Nat} : ∀ (n : Nat) (x1 : Int32) (x4 : Int32) (h : pH) (q : Int32 × pH), fl_tellBoats_74 n x1 x4 h = some q → px_G (d + 2 + 1) (pX_RX2, prog_4_method_6_code, 6, none) 74 [some (.inr (.inl 47)), some (.inl x1), some (.inr (.inl 45)), none, some (.inl x4), none] [] h q := by
  intro n
  induction n with
  | zero =>
    intro x1 x4 h q e
    cases e
  | succ n ih =>
    intro x1 x4 h q e
    exact px_blk_ok (d := d + 2) (M := (pX_RX2, prog_4_method_6_code, 6, none)) (C := fl_tellBoats_orc) (code := fl_tellBoats_code) (ld := [103]) (kl := [(103, fun ls st h => px_if (px_fit [57, 1, 55, 0, 1, 0] ls && px_fits [] st) (fl_tellBoats_103 (fl_tellBoats_74 n) (px_gi ls 1) (px_gi ls 4) h))]) (fl_tellBoats_orc_ok) pX_ok_RX2 fl_tellBoats_code_ok (px_k1 (px_ko (ts := [57, 1, 55, 0, 1, 0]) (ss := []) fun ls st h q e => fl_tellBoats_103_ok ih _ _ _ _ e) px_k0) 58 74 _ _ h q e
set_option maxRecDepth 200000 in
theorem fl_tellBoats_61_ok {d : Nat} {r5 : Int32 → Int32 → Int32 → pH → pR} (hr5 : ∀ (x1 : Int32) (x3 : Int32) (x4 : Int32) (h : pH) (q : Int32 × pH), r5 x1 x3 x4 h = some q → px_G (d + 2 + 1) (pX_RX2, prog_4_method_6_code, 6, none) 5 [some (.inr (.inl 47)), some (.inl x1), some (.inr (.inl 45)), some (.inl x3), some (.inl x4), none] [] h q) : ∀ (x1 : Int32) (x3 : Int32) (x4 : Int32) (h : pH) (q : Int32 × pH), fl_tellBoats_61 r5 x1 x3 x4 h = some q → px_G (d + 2 + 1) (pX_RX2, prog_4_method_6_code, 6, none) 61 [some (.inr (.inl 47)), some (.inl x1), some (.inr (.inl 45)), some (.inl x3), some (.inl x4), none] [] h q := by
  intro x1 x3 x4 h q e
  exact px_blk_ok (d := d + 2) (M := (pX_RX2, prog_4_method_6_code, 6, none)) (C := fl_tellBoats_orc) (code := fl_tellBoats_code) (ld := [5]) (kl := [(5, fun ls st h => px_if (px_fit [57, 1, 55, 1, 1, 0] ls && px_fits [] st) (r5 (px_gi ls 1) (px_gi ls 3) (px_gi ls 4) h))]) (fl_tellBoats_orc_ok) pX_ok_RX2 fl_tellBoats_code_ok (px_k1 (px_ko (ts := [57, 1, 55, 1, 1, 0]) (ss := []) fun ls st h q e => hr5 _ _ _ _ _ e) px_k0) 58 61 _ _ h q e
set_option maxRecDepth 200000 in
theorem fl_tellBoats_5_ok {d : Nat} : ∀ (n : Nat) (x1 : Int32) (x3 : Int32) (x4 : Int32) (h : pH) (q : Int32 × pH), fl_tellBoats_5 n x1 x3 x4 h = some q → px_G (d + 2 + 1) (pX_RX2, prog_4_method_6_code, 6, none) 5 [some (.inr (.inl 47)), some (.inl x1), some (.inr (.inl 45)), some (.inl x3), some (.inl x4), none] [] h q := by
  intro n
  induction n with
  | zero =>
    intro x1 x3 x4 h q e
    cases e
  | succ n ih =>
    intro x1 x3 x4 h q e
    exact px_blk_ok (d := d + 2) (M := (pX_RX2, prog_4_method_6_code, 6, none)) (C := fl_tellBoats_orc) (code := fl_tellBoats_code) (ld := [61, 74]) (kl := [(61, fun ls st h => px_if (px_fit [57, 1, 55, 1, 1, 0] ls && px_fits [] st) (fl_tellBoats_61 (fl_tellBoats_5 n) (px_gi ls 1) (px_gi ls 3) (px_gi ls 4) h)), (74, fun ls st h => px_if (px_fit [57, 1, 55, 0, 1, 0] ls && px_fits [] st) (fl_tellBoats_74 px_F (px_gi ls 1) (px_gi ls 4) h))]) (fl_tellBoats_orc_ok) pX_ok_RX2 fl_tellBoats_code_ok (px_k1 (px_ko (ts := [57, 1, 55, 1, 1, 0]) (ss := []) fun ls st h q e => fl_tellBoats_61_ok ih _ _ _ _ _ e) (px_k1 (px_ko (ts := [57, 1, 55, 0, 1, 0]) (ss := []) fun ls st h q e => fl_tellBoats_74_ok _ _ _ _ _ e) px_k0)) 58 5 _ _ h q e
set_option maxRecDepth 200000 in
theorem fl_tellBoats_ok {d : Nat} {x1 : Int32} {h : pH} {q : Int32 × pH} (e : fl_tellBoats x1 h = some q) : px_Con (d + 3) 18 [.inr (.inl 47), .inl x1, .inr (.inl 45)] h q :=
  px_con (X := pX_RX2) (b := prog_4_method_6_code) (nL := 6) (rt := none) rfl rfl (Nat.le_of_ble_eq_true rfl) rfl (px_blk_ok (d := d + 2) (M := (pX_RX2, prog_4_method_6_code, 6, none)) (C := fl_tellBoats_orc) (code := fl_tellBoats_code) (ld := [5]) (kl := [(5, fun ls st h => px_if (px_fit [57, 1, 55, 1, 1, 0] ls && px_fits [] st) (fl_tellBoats_5 px_F (px_gi ls 1) (px_gi ls 3) (px_gi ls 4) h))]) (fl_tellBoats_orc_ok) pX_ok_RX2 fl_tellBoats_code_ok (px_k1 (px_ko (ts := [57, 1, 55, 1, 1, 0]) (ss := []) fun ls st h q e => fl_tellBoats_5_ok _ _ _ _ _ _ e) px_k0) 58 0 _ _ _ q e)
