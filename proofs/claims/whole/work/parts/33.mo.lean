/-! the reference: bits and answers -/
/-! WordsUnsaidModel.peopleAt(I)I -/
noncomputable def mo_peopleAt_30 (r4 : Int32 → Int32 → Int32 → pH → pR) (x1 : Int32) (x3 : Int32) (s0 : Int32) (s1 : Int32) (h : pH) : pR :=
  let y2_1 := s1 ||| s0
  r4 x1 y2_1 (x3 + px_c 1) h
noncomputable def mo_peopleAt_4 : Nat → Int32 → Int32 → Int32 → pH → pR
  | 0, _, _, _, _ => none
  | n + 1, x1, x2, x3, h =>
    if (h 51 4) ≤ x3 then
      some (x2, h)
    else
      px_if (px_ok 0 52 x3) <|
      if (h 52 x3.toNatClampNeg) = x1 then
        mo_peopleAt_30 (mo_peopleAt_4 n) x1 x3 ((px_c 1) <<< (x3 &&& 31)) x2 h
      else
        mo_peopleAt_30 (mo_peopleAt_4 n) x1 x3 (px_c 0) x2 h
noncomputable def mo_peopleAt (x1 : Int32) (h : pH) : pR :=
  mo_peopleAt_4 px_F x1 (px_c 0) (px_c 0) h
def mo_peopleAt_code : pCode := [(0, .iconst 0, 1), (1, .istore_n 2, 1), (2, .iconst 0, 1), (3, .istore_n 3, 1), (4, .iload_n 3, 1), (5, .aload_n 0, 1), (6, .getfield 112, 3), (9, .if_icmp .ge (29), 3), (12, .iload_n 2, 1), (13, .aload_n 0, 1), (14, .getfield 9, 3), (17, .iload_n 3, 1), (18, .iaload, 1), (19, .iload_n 1, 1), (20, .if_icmp .ne (9), 3), (23, .iconst 1, 1), (24, .iload_n 3, 1), (25, .ishl, 1), (26, .goto (4), 3), (29, .iconst 0, 1), (30, .ior, 1), (31, .istore_n 2, 1), (32, .iinc 3 (1), 3), (35, .goto (-31), 3), (38, .iload_n 2, 1), (39, .ireturn, 1)]
set_option maxRecDepth 200000 in
theorem mo_peopleAt_code_ok : px_code prog_13_method_35_code mo_peopleAt_code = true := by decide +kernel
noncomputable def mo_peopleAt_orc : pC := px_orc []
theorem mo_peopleAt_orc_ok {d : Nat} : px_Or (d + 0) (mo_peopleAt_orc) := px_orc_ok (by
  exact px_o0)
set_option maxRecDepth 200000 in
theorem mo_peopleAt_30_ok {d : Nat} {r4 : Int32 → Int32 → Int32 → pH → pR} (hr4 : ∀ (x1 : Int32) (x2 : Int32) (x3 : Int32) (h : pH) (q : Int32 × pH), r4 x1 x2 x3 h = some q → px_G (d + 0 + 1) (pX_RX11, prog_13_method_35_code, 4, (some .int)) 4 [some (.inr (.inl 51)), some (.inl x1), some (.inl x2), some (.inl x3)] [] h q) : ∀ (x1 : Int32) (x3 : Int32) (s0 : Int32) (s1 : Int32) (h : pH) (q : Int32 × pH), mo_peopleAt_30 r4 x1 x3 s0 s1 h = some q → px_G (d + 0 + 1) (pX_RX11, prog_13_method_35_code, 4, (some .int)) 30 [some (.inr (.inl 51)), some (.inl x1), none, some (.inl x3)] [.inl s0, .inl s1] h q := by
  intro x1 x3 s0 s1 h q e
  exact px_blk_ok (d := d + 0) (M := (pX_RX11, prog_13_method_35_code, 4, (some .int))) (C := mo_peopleAt_orc) (code := mo_peopleAt_code) (ld := [4]) (kl := [(4, fun ls st h => px_if (px_fit [61, 1, 1, 1] ls && px_fits [] st) (r4 (px_gi ls 1) (px_gi ls 2) (px_gi ls 3) h))]) (mo_peopleAt_orc_ok) pX_ok_RX11 mo_peopleAt_code_ok (px_k1 (px_ko (ts := [61, 1, 1, 1]) (ss := []) fun ls st h q e => hr4 _ _ _ _ _ e) px_k0) 31 30 _ _ h q e
set_option maxRecDepth 200000 in
theorem mo_peopleAt_4_ok {d : Nat} : ∀ (n : Nat) (x1 : Int32) (x2 : Int32) (x3 : Int32) (h : pH) (q : Int32 × pH), mo_peopleAt_4 n x1 x2 x3 h = some q → px_G (d + 0 + 1) (pX_RX11, prog_13_method_35_code, 4, (some .int)) 4 [some (.inr (.inl 51)), some (.inl x1), some (.inl x2), some (.inl x3)] [] h q := by
  intro n
  induction n with
  | zero =>
    intro x1 x2 x3 h q e
    cases e
  | succ n ih =>
    intro x1 x2 x3 h q e
    exact px_blk_ok (d := d + 0) (M := (pX_RX11, prog_13_method_35_code, 4, (some .int))) (C := mo_peopleAt_orc) (code := mo_peopleAt_code) (ld := [30]) (kl := [(30, fun ls st h => px_if (px_fit [61, 1, 0, 1] ls && px_fits [1, 1] st) (mo_peopleAt_30 (mo_peopleAt_4 n) (px_gi ls 1) (px_gi ls 3) (px_si st 0) (px_si st 1) h))]) (mo_peopleAt_orc_ok) pX_ok_RX11 mo_peopleAt_code_ok (px_k1 (px_ko (ts := [61, 1, 0, 1]) (ss := [1, 1]) fun ls st h q e => mo_peopleAt_30_ok ih _ _ _ _ _ _ e) px_k0) 31 4 _ _ h q e
set_option maxRecDepth 200000 in
theorem mo_peopleAt_ok {d : Nat} {x1 : Int32} {h : pH} {q : Int32 × pH} (e : mo_peopleAt x1 h = some q) : px_Con (d + 1) 207 [.inr (.inl 51), .inl x1] h q :=
  px_con (X := pX_RX11) (b := prog_13_method_35_code) (nL := 4) (rt := (some .int)) rfl rfl (Nat.le_of_ble_eq_true rfl) rfl (px_blk_ok (d := d + 0) (M := (pX_RX11, prog_13_method_35_code, 4, (some .int))) (C := mo_peopleAt_orc) (code := mo_peopleAt_code) (ld := [4]) (kl := [(4, fun ls st h => px_if (px_fit [61, 1, 1, 1] ls && px_fits [] st) (mo_peopleAt_4 px_F (px_gi ls 1) (px_gi ls 2) (px_gi ls 3) h))]) (mo_peopleAt_orc_ok) pX_ok_RX11 mo_peopleAt_code_ok (px_k1 (px_ko (ts := [61, 1, 1, 1]) (ss := []) fun ls st h q e => mo_peopleAt_4_ok _ _ _ _ _ _ e) px_k0) 31 0 _ _ _ q e)
/-! WordsUnsaidModel.thingsOf([II)I -/
noncomputable def mo_thingsOf_34 (r5 : Nat → Int32 → Int32 → Int32 → pH → pR) (a1 : Nat) (x2 : Int32) (x4 : Int32) (s0 : Int32) (s1 : Int32) (h : pH) : pR :=
  let y3_1 := s1 ||| s0
  r5 a1 x2 y3_1 (x4 + px_c 1) h
noncomputable def mo_thingsOf_5 : Nat → Nat → Int32 → Int32 → Int32 → pH → pR
  | 0, _, _, _, _, _ => none
  | n + 1, a1, x2, x3, x4, h =>
    if (h 51 6) ≤ x4 then
      some (x3, h)
    else
      px_if (px_ok 0 a1 ((px_c 32) + x4)) <|
      if (h a1 ((px_c 32) + x4).toNatClampNeg) = x2 then
        mo_thingsOf_34 (mo_thingsOf_5 n) a1 x2 x4 ((px_c 1) <<< (x4 &&& 31)) x3 h
      else
        mo_thingsOf_34 (mo_thingsOf_5 n) a1 x2 x4 (px_c 0) x3 h
noncomputable def mo_thingsOf (a1 : Nat) (x2 : Int32) (h : pH) : pR :=
  mo_thingsOf_5 px_F a1 x2 (px_c 0) (px_c 0) h
def mo_thingsOf_code : pCode := [(0, .iconst 0, 1), (1, .istore_n 3, 1), (2, .iconst 0, 1), (3, .istore 4, 2), (5, .iload 4, 2), (7, .aload_n 0, 1), (8, .getfield 119, 3), (11, .if_icmp .ge (31), 3), (14, .iload_n 3, 1), (15, .aload_n 1, 1), (16, .bipush (32), 2), (18, .iload 4, 2), (20, .iadd, 1), (21, .iaload, 1), (22, .iload_n 2, 1), (23, .if_icmp .ne (10), 3), (26, .iconst 1, 1), (27, .iload 4, 2), (29, .ishl, 1), (30, .goto (4), 3), (33, .iconst 0, 1), (34, .ior, 1), (35, .istore_n 3, 1), (36, .iinc 4 (1), 3), (39, .goto (-34), 3), (42, .iload_n 3, 1), (43, .ireturn, 1)]
set_option maxRecDepth 200000 in
theorem mo_thingsOf_code_ok : px_code prog_13_method_36_code mo_thingsOf_code = true := by decide +kernel
noncomputable def mo_thingsOf_orc : pC := px_orc []
theorem mo_thingsOf_orc_ok {d : Nat} : px_Or (d + 0) (mo_thingsOf_orc) := px_orc_ok (by
  exact px_o0)
set_option maxRecDepth 200000 in
theorem mo_thingsOf_34_ok {d : Nat} {r5 : Nat → Int32 → Int32 → Int32 → pH → pR} (hr5 : ∀ (a1 : Nat) (x2 : Int32) (x3 : Int32) (x4 : Int32) (h : pH) (q : Int32 × pH), r5 a1 x2 x3 x4 h = some q → px_G (d + 0 + 1) (pX_RX11, prog_13_method_36_code, 5, (some .int)) 5 [some (.inr (.inl 51)), some (.inr (.inl a1)), some (.inl x2), some (.inl x3), some (.inl x4)] [] h q) : ∀ (a1 : Nat) (x2 : Int32) (x4 : Int32) (s0 : Int32) (s1 : Int32) (h : pH) (q : Int32 × pH), mo_thingsOf_34 r5 a1 x2 x4 s0 s1 h = some q → px_G (d + 0 + 1) (pX_RX11, prog_13_method_36_code, 5, (some .int)) 34 [some (.inr (.inl 51)), some (.inr (.inl a1)), some (.inl x2), none, some (.inl x4)] [.inl s0, .inl s1] h q := by
  intro a1 x2 x4 s0 s1 h q e
  exact px_blk_ok (d := d + 0) (M := (pX_RX11, prog_13_method_36_code, 5, (some .int))) (C := mo_thingsOf_orc) (code := mo_thingsOf_code) (ld := [5]) (kl := [(5, fun ls st h => px_if (px_fit [61, 2, 1, 1, 1] ls && px_fits [] st) (r5 (px_gr ls 1) (px_gi ls 2) (px_gi ls 3) (px_gi ls 4) h))]) (mo_thingsOf_orc_ok) pX_ok_RX11 mo_thingsOf_code_ok (px_k1 (px_ko (ts := [61, 2, 1, 1, 1]) (ss := []) fun ls st h q e => hr5 _ _ _ _ _ _ e) px_k0) 32 34 _ _ h q e
set_option maxRecDepth 200000 in
theorem mo_thingsOf_5_ok {d : Nat} : ∀ (n : Nat) (a1 : Nat) (x2 : Int32) (x3 : Int32) (x4 : Int32) (h : pH) (q : Int32 × pH), mo_thingsOf_5 n a1 x2 x3 x4 h = some q → px_G (d + 0 + 1) (pX_RX11, prog_13_method_36_code, 5, (some .int)) 5 [some (.inr (.inl 51)), some (.inr (.inl a1)), some (.inl x2), some (.inl x3), some (.inl x4)] [] h q := by
  intro n
  induction n with
  | zero =>
    intro a1 x2 x3 x4 h q e
    cases e
  | succ n ih =>
    intro a1 x2 x3 x4 h q e
    exact px_blk_ok (d := d + 0) (M := (pX_RX11, prog_13_method_36_code, 5, (some .int))) (C := mo_thingsOf_orc) (code := mo_thingsOf_code) (ld := [34]) (kl := [(34, fun ls st h => px_if (px_fit [61, 2, 1, 0, 1] ls && px_fits [1, 1] st) (mo_thingsOf_34 (mo_thingsOf_5 n) (px_gr ls 1) (px_gi ls 2) (px_gi ls 4) (px_si st 0) (px_si st 1) h))]) (mo_thingsOf_orc_ok) pX_ok_RX11 mo_thingsOf_code_ok (px_k1 (px_ko (ts := [61, 2, 1, 0, 1]) (ss := [1, 1]) fun ls st h q e => mo_thingsOf_34_ok ih _ _ _ _ _ _ _ e) px_k0) 32 5 _ _ h q e
set_option maxRecDepth 200000 in
theorem mo_thingsOf_ok {d : Nat} {a1 : Nat} {x2 : Int32} {h : pH} {q : Int32 × pH} (e : mo_thingsOf a1 x2 h = some q) : px_Con (d + 1) 208 [.inr (.inl 51), .inr (.inl a1), .inl x2] h q :=
  px_con (X := pX_RX11) (b := prog_13_method_36_code) (nL := 5) (rt := (some .int)) rfl rfl (Nat.le_of_ble_eq_true rfl) rfl (px_blk_ok (d := d + 0) (M := (pX_RX11, prog_13_method_36_code, 5, (some .int))) (C := mo_thingsOf_orc) (code := mo_thingsOf_code) (ld := [5]) (kl := [(5, fun ls st h => px_if (px_fit [61, 2, 1, 1, 1] ls && px_fits [] st) (mo_thingsOf_5 px_F (px_gr ls 1) (px_gi ls 2) (px_gi ls 3) (px_gi ls 4) h))]) (mo_thingsOf_orc_ok) pX_ok_RX11 mo_thingsOf_code_ok (px_k1 (px_ko (ts := [61, 2, 1, 1, 1]) (ss := []) fun ls st h q e => mo_thingsOf_5_ok _ _ _ _ _ _ _ e) px_k0) 32 0 _ _ _ q e)
/-! WordsUnsaidModel.knownBy(I)I -/
noncomputable def mo_knownBy_36 (r4 : Int32 → Int32 → Int32 → pH → pR) (x1 : Int32) (x3 : Int32) (s0 : Int32) (s1 : Int32) (h : pH) : pR :=
  let y2_1 := s1 ||| s0
  r4 x1 y2_1 (x3 + px_c 1) h
noncomputable def mo_knownBy_4 : Nat → Int32 → Int32 → Int32 → pH → pR
  | 0, _, _, _, _ => none
  | n + 1, x1, x2, x3, h =>
    if (h 51 6) ≤ x3 then
      some (x2, h)
    else
      px_if (px_ok 0 52 ((px_c 42) + x3)) <|
      px_bind (mo_has (h 52 ((px_c 42) + x3).toNatClampNeg) x1 h) fun z1 h2 =>
      if z1 = 0 then
        mo_knownBy_36 (mo_knownBy_4 n) x1 x3 (px_c 0) x2 h2
      else
        mo_knownBy_36 (mo_knownBy_4 n) x1 x3 ((px_c 1) <<< (x3 &&& 31)) x2 h2
noncomputable def mo_knownBy (x1 : Int32) (h : pH) : pR :=
  mo_knownBy_4 px_F x1 (px_c 0) (px_c 0) h
def mo_knownBy_code : pCode := [(0, .iconst 0, 1), (1, .istore_n 2, 1), (2, .iconst 0, 1), (3, .istore_n 3, 1), (4, .iload_n 3, 1), (5, .aload_n 0, 1), (6, .getfield 119, 3), (9, .if_icmp .ge (35), 3), (12, .iload_n 2, 1), (13, .aload_n 0, 1), (14, .getfield 9, 3), (17, .bipush (42), 2), (19, .iload_n 3, 1), (20, .iadd, 1), (21, .iaload, 1), (22, .iload_n 1, 1), (23, .invokestatic 227, 3), (26, .ifCond .eq (9), 3), (29, .iconst 1, 1), (30, .iload_n 3, 1), (31, .ishl, 1), (32, .goto (4), 3), (35, .iconst 0, 1), (36, .ior, 1), (37, .istore_n 2, 1), (38, .iinc 3 (1), 3), (41, .goto (-37), 3), (44, .iload_n 2, 1), (45, .ireturn, 1)]
set_option maxRecDepth 200000 in
theorem mo_knownBy_code_ok : px_code prog_13_method_37_code mo_knownBy_code = true := by decide +kernel
noncomputable def mo_knownBy_orc : pC := px_orc [(176, fun a h => match a with
    | [.inl v0, .inl v1] => mo_has v0 v1 h
    | _ => none)]
theorem mo_knownBy_orc_ok {d : Nat} : px_Or (d + 1) (mo_knownBy_orc) := px_orc_ok (by
  refine px_o1 (fun a h q e => by
    dsimp only at e
    split at e
    · exact mo_has_ok (d := d + 0) e
    · cases e) ?_
  exact px_o0)
set_option maxRecDepth 200000 in
theorem mo_knownBy_36_ok {d : Nat} {r4 : Int32 → Int32 → Int32 → pH → pR} (hr4 : ∀ (x1 : Int32) (x2 : Int32) (x3 : Int32) (h : pH) (q : Int32 × pH), r4 x1 x2 x3 h = some q → px_G (d + 1 + 1) (pX_RX11, prog_13_method_37_code, 4, (some .int)) 4 [some (.inr (.inl 51)), some (.inl x1), some (.inl x2), some (.inl x3)] [] h q) : ∀ (x1 : Int32) (x3 : Int32) (s0 : Int32) (s1 : Int32) (h : pH) (q : Int32 × pH), mo_knownBy_36 r4 x1 x3 s0 s1 h = some q → px_G (d + 1 + 1) (pX_RX11, prog_13_method_37_code, 4, (some .int)) 36 [some (.inr (.inl 51)), some (.inl x1), none, some (.inl x3)] [.inl s0, .inl s1] h q := by
  intro x1 x3 s0 s1 h q e
  exact px_blk_ok (d := d + 1) (M := (pX_RX11, prog_13_method_37_code, 4, (some .int))) (C := mo_knownBy_orc) (code := mo_knownBy_code) (ld := [4]) (kl := [(4, fun ls st h => px_if (px_fit [61, 1, 1, 1] ls && px_fits [] st) (r4 (px_gi ls 1) (px_gi ls 2) (px_gi ls 3) h))]) (mo_knownBy_orc_ok) pX_ok_RX11 mo_knownBy_code_ok (px_k1 (px_ko (ts := [61, 1, 1, 1]) (ss := []) fun ls st h q e => hr4 _ _ _ _ _ e) px_k0) 34 36 _ _ h q e
set_option maxRecDepth 200000 in
theorem mo_knownBy_4_ok {d : Nat} : ∀ (n : Nat) (x1 : Int32) (x2 : Int32) (x3 : Int32) (h : pH) (q : Int32 × pH), mo_knownBy_4 n x1 x2 x3 h = some q → px_G (d + 1 + 1) (pX_RX11, prog_13_method_37_code, 4, (some .int)) 4 [some (.inr (.inl 51)), some (.inl x1), some (.inl x2), some (.inl x3)] [] h q := by
  intro n
  induction n with
  | zero =>
    intro x1 x2 x3 h q e
    cases e
  | succ n ih =>
    intro x1 x2 x3 h q e
    exact px_blk_ok (d := d + 1) (M := (pX_RX11, prog_13_method_37_code, 4, (some .int))) (C := mo_knownBy_orc) (code := mo_knownBy_code) (ld := [36]) (kl := [(36, fun ls st h => px_if (px_fit [61, 1, 0, 1] ls && px_fits [1, 1] st) (mo_knownBy_36 (mo_knownBy_4 n) (px_gi ls 1) (px_gi ls 3) (px_si st 0) (px_si st 1) h))]) (mo_knownBy_orc_ok) pX_ok_RX11 mo_knownBy_code_ok (px_k1 (px_ko (ts := [61, 1, 0, 1]) (ss := [1, 1]) fun ls st h q e => mo_knownBy_36_ok ih _ _ _ _ _ _ e) px_k0) 34 4 _ _ h q e
set_option maxRecDepth 200000 in
theorem mo_knownBy_ok {d : Nat} {x1 : Int32} {h : pH} {q : Int32 × pH} (e : mo_knownBy x1 h = some q) : px_Con (d + 2) 209 [.inr (.inl 51), .inl x1] h q :=
  px_con (X := pX_RX11) (b := prog_13_method_37_code) (nL := 4) (rt := (some .int)) rfl rfl (Nat.le_of_ble_eq_true rfl) rfl (px_blk_ok (d := d + 1) (M := (pX_RX11, prog_13_method_37_code, 4, (some .int))) (C := mo_knownBy_orc) (code := mo_knownBy_code) (ld := [4]) (kl := [(4, fun ls st h => px_if (px_fit [61, 1, 1, 1] ls && px_fits [] st) (mo_knownBy_4 px_F (px_gi ls 1) (px_gi ls 2) (px_gi ls 3) h))]) (mo_knownBy_orc_ok) pX_ok_RX11 mo_knownBy_code_ok (px_k1 (px_ko (ts := [61, 1, 1, 1]) (ss := []) fun ls st h q e => mo_knownBy_4_ok _ _ _ _ _ _ e) px_k0) 34 0 _ _ _ q e)
/-! WordsUnsaidModel.saidOnes([I)I -/
noncomputable def mo_saidOnes_4 : Nat → Nat → Int32 → Int32 → pH → pR
  | 0, _, _, _, _ => none
  | n + 1, a1, x2, x3, h =>
    if (h 51 6) ≤ x3 then
      some (x2, h)
    else
      px_if (px_ok 0 a1 ((px_c 22) + x3)) <|
      let y2_1 := x2 ||| ((h a1 ((px_c 22) + x3).toNatClampNeg) <<< (x3 &&& 31))
      mo_saidOnes_4 n a1 y2_1 (x3 + px_c 1) h
noncomputable def mo_saidOnes (a1 : Nat) (h : pH) : pR :=
  mo_saidOnes_4 px_F a1 (px_c 0) (px_c 0) h
def mo_saidOnes_code : pCode := [(0, .iconst 0, 1), (1, .istore_n 2, 1), (2, .iconst 0, 1), (3, .istore_n 3, 1), (4, .iload_n 3, 1), (5, .aload_n 0, 1), (6, .getfield 119, 3), (9, .if_icmp .ge (20), 3), (12, .iload_n 2, 1), (13, .aload_n 1, 1), (14, .bipush (22), 2), (16, .iload_n 3, 1), (17, .iadd, 1), (18, .iaload, 1), (19, .iload_n 3, 1), (20, .ishl, 1), (21, .ior, 1), (22, .istore_n 2, 1), (23, .iinc 3 (1), 3), (26, .goto (-22), 3), (29, .iload_n 2, 1), (30, .ireturn, 1)]
set_option maxRecDepth 200000 in
theorem mo_saidOnes_code_ok : px_code prog_13_method_38_code mo_saidOnes_code = true := by decide +kernel
noncomputable def mo_saidOnes_orc : pC := px_orc []
theorem mo_saidOnes_orc_ok {d : Nat} : px_Or (d + 0) (mo_saidOnes_orc) := px_orc_ok (by
  exact px_o0)
set_option maxRecDepth 200000 in
theorem mo_saidOnes_4_ok {d : Nat} : ∀ (n : Nat) (a1 : Nat) (x2 : Int32) (x3 : Int32) (h : pH) (q : Int32 × pH), mo_saidOnes_4 n a1 x2 x3 h = some q → px_G (d + 0 + 1) (pX_RX11, prog_13_method_38_code, 4, (some .int)) 4 [some (.inr (.inl 51)), some (.inr (.inl a1)), some (.inl x2), some (.inl x3)] [] h q := by
  intro n
  induction n with
  | zero =>
    intro a1 x2 x3 h q e
    cases e
  | succ n ih =>
    intro a1 x2 x3 h q e
    exact px_blk_ok (d := d + 0) (M := (pX_RX11, prog_13_method_38_code, 4, (some .int))) (C := mo_saidOnes_orc) (code := mo_saidOnes_code) (ld := [4]) (kl := [(4, fun ls st h => px_if (px_fit [61, 2, 1, 1] ls && px_fits [] st) (mo_saidOnes_4 n (px_gr ls 1) (px_gi ls 2) (px_gi ls 3) h))]) (mo_saidOnes_orc_ok) pX_ok_RX11 mo_saidOnes_code_ok (px_k1 (px_ko (ts := [61, 2, 1, 1]) (ss := []) fun ls st h q e => ih _ _ _ _ _ e) px_k0) 27 4 _ _ h q e
set_option maxRecDepth 200000 in
theorem mo_saidOnes_ok {d : Nat} {a1 : Nat} {h : pH} {q : Int32 × pH} (e : mo_saidOnes a1 h = some q) : px_Con (d + 1) 210 [.inr (.inl 51), .inr (.inl a1)] h q :=
  px_con (X := pX_RX11) (b := prog_13_method_38_code) (nL := 4) (rt := (some .int)) rfl rfl (Nat.le_of_ble_eq_true rfl) rfl (px_blk_ok (d := d + 0) (M := (pX_RX11, prog_13_method_38_code, 4, (some .int))) (C := mo_saidOnes_orc) (code := mo_saidOnes_code) (ld := [4]) (kl := [(4, fun ls st h => px_if (px_fit [61, 2, 1, 1] ls && px_fits [] st) (mo_saidOnes_4 px_F (px_gr ls 1) (px_gi ls 2) (px_gi ls 3) h))]) (mo_saidOnes_orc_ok) pX_ok_RX11 mo_saidOnes_code_ok (px_k1 (px_ko (ts := [61, 2, 1, 1]) (ss := []) fun ls st h q e => mo_saidOnes_4_ok _ _ _ _ _ _ e) px_k0) 27 0 _ _ _ q e)
/-! WordsUnsaidModel.leftIn([II)I -/
noncomputable def mo_leftIn_29 (r4 : Nat → Int32 → Int32 → Int32 → pH → pR) (a0 : Nat) (x1 : Int32) (x3 : Int32) (s0 : Int32) (s1 : Int32) (h : pH) : pR :=
  let y2_1 := s1 + s0
  r4 a0 x1 y2_1 (x3 + px_c 1) h
noncomputable def mo_leftIn_4 : Nat → Nat → Int32 → Int32 → Int32 → pH → pR
  | 0, _, _, _, _, _ => none
  | n + 1, a0, x1, x2, x3, h =>
    if (px_c 10) ≤ x3 then
      some (x2, h)
    else
      px_bind (mo_has x1 x3 h) fun z1 h2 =>
      if z1 = 0 then
        mo_leftIn_29 (mo_leftIn_4 n) a0 x1 x3 (px_c 0) x2 h2
      else
        px_if (px_ok 0 a0 ((px_c 12) + x3)) <|
        mo_leftIn_29 (mo_leftIn_4 n) a0 x1 x3 (h2 a0 ((px_c 12) + x3).toNatClampNeg) x2 h2
noncomputable def mo_leftIn (a0 : Nat) (x1 : Int32) (h : pH) : pR :=
  mo_leftIn_4 px_F a0 x1 (px_c 0) (px_c 0) h
def mo_leftIn_code : pCode := [(0, .iconst 0, 1), (1, .istore_n 2, 1), (2, .iconst 0, 1), (3, .istore_n 3, 1), (4, .iload_n 3, 1), (5, .bipush (10), 2), (7, .if_icmp .ge (30), 3), (10, .iload_n 2, 1), (11, .iload_n 1, 1), (12, .iload_n 3, 1), (13, .invokestatic 227, 3), (16, .ifCond .eq (12), 3), (19, .aload_n 0, 1), (20, .bipush (12), 2), (22, .iload_n 3, 1), (23, .iadd, 1), (24, .iaload, 1), (25, .goto (4), 3), (28, .iconst 0, 1), (29, .iadd, 1), (30, .istore_n 2, 1), (31, .iinc 3 (1), 3), (34, .goto (-30), 3), (37, .iload_n 2, 1), (38, .ireturn, 1)]
set_option maxRecDepth 200000 in
theorem mo_leftIn_code_ok : px_code prog_13_method_39_code mo_leftIn_code = true := by decide +kernel
noncomputable def mo_leftIn_orc : pC := px_orc [(176, fun a h => match a with
    | [.inl v0, .inl v1] => mo_has v0 v1 h
    | _ => none)]
theorem mo_leftIn_orc_ok {d : Nat} : px_Or (d + 1) (mo_leftIn_orc) := px_orc_ok (by
  refine px_o1 (fun a h q e => by
    dsimp only at e
    split at e
    · exact mo_has_ok (d := d + 0) e
    · cases e) ?_
  exact px_o0)
set_option maxRecDepth 200000 in
theorem mo_leftIn_29_ok {d : Nat} {r4 : Nat → Int32 → Int32 → Int32 → pH → pR} (hr4 : ∀ (a0 : Nat) (x1 : Int32) (x2 : Int32) (x3 : Int32) (h : pH) (q : Int32 × pH), r4 a0 x1 x2 x3 h = some q → px_G (d + 1 + 1) (pX_RX11, prog_13_method_39_code, 4, (some .int)) 4 [some (.inr (.inl a0)), some (.inl x1), some (.inl x2), some (.inl x3)] [] h q) : ∀ (a0 : Nat) (x1 : Int32) (x3 : Int32) (s0 : Int32) (s1 : Int32) (h : pH) (q : Int32 × pH), mo_leftIn_29 r4 a0 x1 x3 s0 s1 h = some q → px_G (d + 1 + 1) (pX_RX11, prog_13_method_39_code, 4, (some .int)) 29 [some (.inr (.inl a0)), some (.inl x1), none, some (.inl x3)] [.inl s0, .inl s1] h q := by
  intro a0 x1 x3 s0 s1 h q e
  exact px_blk_ok (d := d + 1) (M := (pX_RX11, prog_13_method_39_code, 4, (some .int))) (C := mo_leftIn_orc) (code := mo_leftIn_code) (ld := [4]) (kl := [(4, fun ls st h => px_if (px_fit [2, 1, 1, 1] ls && px_fits [] st) (r4 (px_gr ls 0) (px_gi ls 1) (px_gi ls 2) (px_gi ls 3) h))]) (mo_leftIn_orc_ok) pX_ok_RX11 mo_leftIn_code_ok (px_k1 (px_ko (ts := [2, 1, 1, 1]) (ss := []) fun ls st h q e => hr4 _ _ _ _ _ _ e) px_k0) 30 29 _ _ h q e
set_option maxRecDepth 200000 in
theorem mo_leftIn_4_ok {d : Nat} : ∀ (n : Nat) (a0 : Nat) (x1 : Int32) (x2 : Int32) (x3 : Int32) (h : pH) (q : Int32 × pH), mo_leftIn_4 n a0 x1 x2 x3 h = some q → px_G (d + 1 + 1) (pX_RX11, prog_13_method_39_code, 4, (some .int)) 4 [some (.inr (.inl a0)), some (.inl x1), some (.inl x2), some (.inl x3)] [] h q := by
  intro n
  induction n with
  | zero =>
    intro a0 x1 x2 x3 h q e
    cases e
  | succ n ih =>
    intro a0 x1 x2 x3 h q e
    exact px_blk_ok (d := d + 1) (M := (pX_RX11, prog_13_method_39_code, 4, (some .int))) (C := mo_leftIn_orc) (code := mo_leftIn_code) (ld := [29]) (kl := [(29, fun ls st h => px_if (px_fit [2, 1, 0, 1] ls && px_fits [1, 1] st) (mo_leftIn_29 (mo_leftIn_4 n) (px_gr ls 0) (px_gi ls 1) (px_gi ls 3) (px_si st 0) (px_si st 1) h))]) (mo_leftIn_orc_ok) pX_ok_RX11 mo_leftIn_code_ok (px_k1 (px_ko (ts := [2, 1, 0, 1]) (ss := [1, 1]) fun ls st h q e => mo_leftIn_29_ok ih _ _ _ _ _ _ _ e) px_k0) 30 4 _ _ h q e
set_option maxRecDepth 200000 in
theorem mo_leftIn_ok {d : Nat} {a0 : Nat} {x1 : Int32} {h : pH} {q : Int32 × pH} (e : mo_leftIn a0 x1 h = some q) : px_Con (d + 2) 211 [.inr (.inl a0), .inl x1] h q :=
  px_con (X := pX_RX11) (b := prog_13_method_39_code) (nL := 4) (rt := (some .int)) rfl rfl (Nat.le_of_ble_eq_true rfl) rfl (px_blk_ok (d := d + 1) (M := (pX_RX11, prog_13_method_39_code, 4, (some .int))) (C := mo_leftIn_orc) (code := mo_leftIn_code) (ld := [4]) (kl := [(4, fun ls st h => px_if (px_fit [2, 1, 1, 1] ls && px_fits [] st) (mo_leftIn_4 px_F (px_gr ls 0) (px_gi ls 1) (px_gi ls 2) (px_gi ls 3) h))]) (mo_leftIn_orc_ok) pX_ok_RX11 mo_leftIn_code_ok (px_k1 (px_ko (ts := [2, 1, 1, 1]) (ss := []) fun ls st h q e => mo_leftIn_4_ok _ _ _ _ _ _ _ e) px_k0) 30 0 _ _ _ q e)
/-! WordsUnsaidModel.unsaid([II)I -/
noncomputable def mo_unsaid (a1 : Nat) (x2 : Int32) (h : pH) : pR :=
  px_bind (mo_thingsOf a1 x2 h) fun z1 h2 =>
  px_bind (mo_saidOnes a1 h2) fun z3 h4 =>
  some (z1 &&& (z3 ^^^ (px_c (-1))), h4)
def mo_unsaid_code : pCode := [(0, .aload_n 0, 1), (1, .aload_n 1, 1), (2, .iload_n 2, 1), (3, .invokevirtual 231, 3), (6, .aload_n 0, 1), (7, .aload_n 1, 1), (8, .invokevirtual 235, 3), (11, .iconst (-1), 1), (12, .ixor, 1), (13, .iand, 1), (14, .ireturn, 1)]
set_option maxRecDepth 200000 in
theorem mo_unsaid_code_ok : px_code prog_13_method_40_code mo_unsaid_code = true := by decide +kernel
noncomputable def mo_unsaid_orc : pC := px_orc [(208, fun a h => match a with
    | [.inr (.inl 51), .inr (.inl v1), .inl v2] => mo_thingsOf v1 v2 h
    | _ => none), (210, fun a h => match a with
    | [.inr (.inl 51), .inr (.inl v1)] => mo_saidOnes v1 h
    | _ => none)]
theorem mo_unsaid_orc_ok {d : Nat} : px_Or (d + 1) (mo_unsaid_orc) := px_orc_ok (by
  refine px_o1 (fun a h q e => by
    dsimp only at e
    split at e
    · exact mo_thingsOf_ok (d := d + 0) e
    · cases e) ?_
  refine px_o1 (fun a h q e => by
    dsimp only at e
    split at e
    · exact mo_saidOnes_ok (d := d + 0) e
    · cases e) ?_
  exact px_o0)
set_option maxRecDepth 200000 in
theorem mo_unsaid_ok {d : Nat} {a1 : Nat} {x2 : Int32} {h : pH} {q : Int32 × pH} (e : mo_unsaid a1 x2 h = some q) : px_Con (d + 2) 212 [.inr (.inl 51), .inr (.inl a1), .inl x2] h q :=
  px_con (X := pX_RX11) (b := prog_13_method_40_code) (nL := 3) (rt := (some .int)) rfl rfl (Nat.le_of_ble_eq_true rfl) rfl (px_blk_ok (d := d + 1) (M := (pX_RX11, prog_13_method_40_code, 3, (some .int))) (C := mo_unsaid_orc) (code := mo_unsaid_code) (ld := []) (kl := []) (mo_unsaid_orc_ok) pX_ok_RX11 mo_unsaid_code_ok (px_k0) 16 0 _ _ _ q e)
/-! WordsUnsaidModel.person(II)I -/
noncomputable def mo_person_22 (h : pH) : pR :=
  px_bind (mo_lost h) fun z1 h2 =>
  some (z1, h2)
noncomputable def mo_person (x1 : Int32) (x2 : Int32) (h : pH) : pR :=
  let h1 := px_w h 51 14 (px_c 0)
  px_bind (mo_isPerson x1 h1) fun z2 h3 =>
  if z2 = 0 then
    mo_person_22 h3
  else
    px_bind (mo_in x2 (px_c 0) (px_c 5) h3) fun z4 h5 =>
    if z4 = 0 then
      mo_person_22 h5
    else
      if x2 = px_c 0 then
        px_if (px_ok 0 54 x1) <|
        some (h5 54 x1.toNatClampNeg, h5)
      else
      if x2 = px_c 1 then
        px_if (px_ok 0 52 x1) <|
        some (h5 52 x1.toNatClampNeg, h5)
      else
      if x2 = px_c 2 then
        px_bind (mo_thingsOf 52 x1 h5) fun z6 h7 =>
        some (z6, h7)
      else
      if x2 = px_c 3 then
        px_bind (mo_knownBy x1 h5) fun z8 h9 =>
        some (z8, h9)
      else
      if x2 = px_c 4 then
        px_bind (mo_unsaid 52 x1 h5) fun z10 h11 =>
        px_bind (mo_leftIn 52 z10 h11) fun z12 h13 =>
        some (z12, h13)
      else
        px_if (px_ok 0 52 ((px_c 6) + x1)) <|
        some (h5 52 ((px_c 6) + x1).toNatClampNeg, h5)
def mo_person_code : pCode := [(0, .aload_n 0, 1), (1, .iconst 0, 1), (2, .putfield 106, 3), (5, .aload_n 0, 1), (6, .iload_n 1, 1), (7, .invokevirtual 122, 3), (10, .ifCond .eq (12), 3), (13, .iload_n 2, 1), (14, .iconst 0, 1), (15, .iconst 5, 1), (16, .invokestatic 115, 3), (19, .ifCond .ne (8), 3), (22, .aload_n 0, 1), (23, .invokevirtual 239, 3), (26, .ireturn, 1), (27, .iload_n 2, 1), (28, .tableswitch (83) (0) (4) #[36, 43, 50, 60, 66], 36), (64, .aload_n 0, 1), (65, .getfield 20, 3), (68, .iload_n 1, 1), (69, .iaload, 1), (70, .ireturn, 1), (71, .aload_n 0, 1), (72, .getfield 9, 3), (75, .iload_n 1, 1), (76, .iaload, 1), (77, .ireturn, 1), (78, .aload_n 0, 1), (79, .aload_n 0, 1), (80, .getfield 9, 3), (83, .iload_n 1, 1), (84, .invokevirtual 231, 3), (87, .ireturn, 1), (88, .aload_n 0, 1), (89, .iload_n 1, 1), (90, .invokevirtual 242, 3), (93, .ireturn, 1), (94, .aload_n 0, 1), (95, .getfield 9, 3), (98, .aload_n 0, 1), (99, .aload_n 0, 1), (100, .getfield 9, 3), (103, .iload_n 1, 1), (104, .invokevirtual 245, 3), (107, .invokestatic 248, 3), (110, .ireturn, 1), (111, .aload_n 0, 1), (112, .getfield 9, 3), (115, .bipush (6), 2), (117, .iload_n 1, 1), (118, .iadd, 1), (119, .iaload, 1), (120, .ireturn, 1)]
set_option maxRecDepth 200000 in
theorem mo_person_code_ok : px_code prog_13_method_41_code mo_person_code = true := by decide +kernel
noncomputable def mo_person_orc : pC := px_orc [(177, fun a h => match a with
    | [.inr (.inl 51)] => mo_lost h
    | _ => none), (179, fun a h => match a with
    | [.inr (.inl 51), .inl v1] => mo_isPerson v1 h
    | _ => none), (175, fun a h => match a with
    | [.inl v0, .inl v1, .inl v2] => mo_in v0 v1 v2 h
    | _ => none), (208, fun a h => match a with
    | [.inr (.inl 51), .inr (.inl v1), .inl v2] => mo_thingsOf v1 v2 h
    | _ => none), (209, fun a h => match a with
    | [.inr (.inl 51), .inl v1] => mo_knownBy v1 h
    | _ => none), (212, fun a h => match a with
    | [.inr (.inl 51), .inr (.inl v1), .inl v2] => mo_unsaid v1 v2 h
    | _ => none), (211, fun a h => match a with
    | [.inr (.inl v0), .inl v1] => mo_leftIn v0 v1 h
    | _ => none)]
theorem mo_person_orc_ok {d : Nat} : px_Or (d + 2) (mo_person_orc) := px_orc_ok (by
  refine px_o1 (fun a h q e => by
    dsimp only at e
    split at e
    · exact mo_lost_ok (d := d + 1) e
    · cases e) ?_
  refine px_o1 (fun a h q e => by
    dsimp only at e
    split at e
    · exact mo_isPerson_ok (d := d + 0) e
    · cases e) ?_
  refine px_o1 (fun a h q e => by
    dsimp only at e
    split at e
    · exact mo_in_ok (d := d + 1) e
    · cases e) ?_
  refine px_o1 (fun a h q e => by
    dsimp only at e
    split at e
    · exact mo_thingsOf_ok (d := d + 1) e
    · cases e) ?_
  refine px_o1 (fun a h q e => by
    dsimp only at e
    split at e
    · exact mo_knownBy_ok (d := d + 0) e
    · cases e) ?_
  refine px_o1 (fun a h q e => by
    dsimp only at e
    split at e
    · exact mo_unsaid_ok (d := d + 0) e
    · cases e) ?_
  refine px_o1 (fun a h q e => by
    dsimp only at e
    split at e
    · exact mo_leftIn_ok (d := d + 0) e
    · cases e) ?_
  exact px_o0)
set_option maxRecDepth 200000 in
theorem mo_person_22_ok {d : Nat} : ∀ (h : pH) (q : Int32 × pH), mo_person_22 h = some q → px_G (d + 2 + 1) (pX_RX11, prog_13_method_41_code, 3, (some .int)) 22 [some (.inr (.inl 51)), none, none] [] h q := by
  intro h q e
  exact px_blk_ok (d := d + 2) (M := (pX_RX11, prog_13_method_41_code, 3, (some .int))) (C := mo_person_orc) (code := mo_person_code) (ld := []) (kl := []) (mo_person_orc_ok) pX_ok_RX11 mo_person_code_ok (px_k0) 58 22 _ _ h q e
set_option maxRecDepth 200000 in
theorem mo_person_ok {d : Nat} {x1 : Int32} {x2 : Int32} {h : pH} {q : Int32 × pH} (e : mo_person x1 x2 h = some q) : px_Con (d + 3) 213 [.inr (.inl 51), .inl x1, .inl x2] h q :=
  px_con (X := pX_RX11) (b := prog_13_method_41_code) (nL := 3) (rt := (some .int)) rfl rfl (Nat.le_of_ble_eq_true rfl) rfl (px_blk_ok (d := d + 2) (M := (pX_RX11, prog_13_method_41_code, 3, (some .int))) (C := mo_person_orc) (code := mo_person_code) (ld := [22]) (kl := [(22, fun ls st h => px_if (px_fit [61, 0, 0] ls && px_fits [] st) (mo_person_22 h))]) (mo_person_orc_ok) pX_ok_RX11 mo_person_code_ok (px_k1 (px_ko (ts := [61, 0, 0]) (ss := []) fun ls st h q e => mo_person_22_ok _ _ e) px_k0) 58 0 _ _ _ q e)
/-! WordsUnsaidModel.thing(II)I -/
noncomputable def mo_thing_23 (h : pH) : pR :=
  px_bind (mo_lost h) fun z1 h2 =>
  some (z1, h2)
noncomputable def mo_thing (x1 : Int32) (x2 : Int32) (h : pH) : pR :=
  let h1 := px_w h 51 14 (px_c 0)
  px_bind (mo_isThing x1 h1) fun z2 h3 =>
  if z2 = 0 then
    mo_thing_23 h3
  else
    px_bind (mo_in x2 (px_c 0) (px_c 6) h3) fun z4 h5 =>
    if z4 = 0 then
      mo_thing_23 h5
    else
      if x2 = px_c 0 then
        px_if (px_ok 0 55 x1) <|
        some (h5 55 x1.toNatClampNeg, h5)
      else
      if x2 = px_c 1 then
        px_if (px_ok 0 52 ((px_c 12) + x1)) <|
        some (h5 52 ((px_c 12) + x1).toNatClampNeg, h5)
      else
      if x2 = px_c 2 then
        px_if (px_ok 0 56 x1) <|
        some (h5 56 x1.toNatClampNeg, h5)
      else
      if x2 = px_c 3 then
        px_if (px_ok 0 52 ((px_c 32) + x1)) <|
        some (h5 52 ((px_c 32) + x1).toNatClampNeg, h5)
      else
      if x2 = px_c 4 then
        px_if (px_ok 0 57 x1) <|
        some (h5 57 x1.toNatClampNeg, h5)
      else
      if x2 = px_c 5 then
        px_if (px_ok 0 52 ((px_c 22) + x1)) <|
        some (h5 52 ((px_c 22) + x1).toNatClampNeg, h5)
      else
        px_if (px_ok 0 52 ((px_c 42) + x1)) <|
        some (h5 52 ((px_c 42) + x1).toNatClampNeg, h5)
def mo_thing_code : pCode := [(0, .aload_n 0, 1), (1, .iconst 0, 1), (2, .putfield 106, 3), (5, .aload_n 0, 1), (6, .iload_n 1, 1), (7, .invokevirtual 251, 3), (10, .ifCond .eq (13), 3), (13, .iload_n 2, 1), (14, .iconst 0, 1), (15, .bipush (6), 2), (17, .invokestatic 115, 3), (20, .ifCond .ne (8), 3), (23, .aload_n 0, 1), (24, .invokevirtual 239, 3), (27, .ireturn, 1), (28, .iload_n 2, 1), (29, .tableswitch (90) (0) (5) #[39, 46, 56, 63, 73, 80], 39), (68, .aload_n 0, 1), (69, .getfield 23, 3), (72, .iload_n 1, 1), (73, .iaload, 1), (74, .ireturn, 1), (75, .aload_n 0, 1), (76, .getfield 9, 3), (79, .bipush (12), 2), (81, .iload_n 1, 1), (82, .iadd, 1), (83, .iaload, 1), (84, .ireturn, 1), (85, .aload_n 0, 1), (86, .getfield 26, 3), (89, .iload_n 1, 1), (90, .iaload, 1), (91, .ireturn, 1), (92, .aload_n 0, 1), (93, .getfield 9, 3), (96, .bipush (32), 2), (98, .iload_n 1, 1), (99, .iadd, 1), (100, .iaload, 1), (101, .ireturn, 1), (102, .aload_n 0, 1), (103, .getfield 29, 3), (106, .iload_n 1, 1), (107, .iaload, 1), (108, .ireturn, 1), (109, .aload_n 0, 1), (110, .getfield 9, 3), (113, .bipush (22), 2), (115, .iload_n 1, 1), (116, .iadd, 1), (117, .iaload, 1), (118, .ireturn, 1), (119, .aload_n 0, 1), (120, .getfield 9, 3), (123, .bipush (42), 2), (125, .iload_n 1, 1), (126, .iadd, 1), (127, .iaload, 1), (128, .ireturn, 1)]
set_option maxRecDepth 200000 in
theorem mo_thing_code_ok : px_code prog_13_method_42_code mo_thing_code = true := by decide +kernel
noncomputable def mo_thing_orc : pC := px_orc [(177, fun a h => match a with
    | [.inr (.inl 51)] => mo_lost h
    | _ => none), (180, fun a h => match a with
    | [.inr (.inl 51), .inl v1] => mo_isThing v1 h
    | _ => none), (175, fun a h => match a with
    | [.inl v0, .inl v1, .inl v2] => mo_in v0 v1 v2 h
    | _ => none)]
theorem mo_thing_orc_ok {d : Nat} : px_Or (d + 2) (mo_thing_orc) := px_orc_ok (by
  refine px_o1 (fun a h q e => by
    dsimp only at e
    split at e
    · exact mo_lost_ok (d := d + 1) e
    · cases e) ?_
  refine px_o1 (fun a h q e => by
    dsimp only at e
    split at e
    · exact mo_isThing_ok (d := d + 0) e
    · cases e) ?_
  refine px_o1 (fun a h q e => by
    dsimp only at e
    split at e
    · exact mo_in_ok (d := d + 1) e
    · cases e) ?_
  exact px_o0)
set_option maxRecDepth 200000 in
theorem mo_thing_23_ok {d : Nat} : ∀ (h : pH) (q : Int32 × pH), mo_thing_23 h = some q → px_G (d + 2 + 1) (pX_RX11, prog_13_method_42_code, 3, (some .int)) 23 [some (.inr (.inl 51)), none, none] [] h q := by
  intro h q e
  exact px_blk_ok (d := d + 2) (M := (pX_RX11, prog_13_method_42_code, 3, (some .int))) (C := mo_thing_orc) (code := mo_thing_code) (ld := []) (kl := []) (mo_thing_orc_ok) pX_ok_RX11 mo_thing_code_ok (px_k0) 65 23 _ _ h q e
set_option maxRecDepth 200000 in
theorem mo_thing_ok {d : Nat} {x1 : Int32} {x2 : Int32} {h : pH} {q : Int32 × pH} (e : mo_thing x1 x2 h = some q) : px_Con (d + 3) 214 [.inr (.inl 51), .inl x1, .inl x2] h q :=
  px_con (X := pX_RX11) (b := prog_13_method_42_code) (nL := 3) (rt := (some .int)) rfl rfl (Nat.le_of_ble_eq_true rfl) rfl (px_blk_ok (d := d + 2) (M := (pX_RX11, prog_13_method_42_code, 3, (some .int))) (C := mo_thing_orc) (code := mo_thing_code) (ld := [23]) (kl := [(23, fun ls st h => px_if (px_fit [61, 0, 0] ls && px_fits [] st) (mo_thing_23 h))]) (mo_thing_orc_ok) pX_ok_RX11 mo_thing_code_ok (px_k1 (px_ko (ts := [61, 0, 0]) (ss := []) fun ls st h q e => mo_thing_23_ok _ _ e) px_k0) 65 0 _ _ _ q e)
/-! WordsUnsaidModel.islet(I)I -/
noncomputable def mo_islet_29 (s0 : Int32) (h : pH) : pR :=
  some (s0, h)
noncomputable def mo_islet (x1 : Int32) (h : pH) : pR :=
  let h1 := px_w h 51 14 (px_c 0)
  px_bind (mo_in x1 (px_c 0) ((h1 51 2) - (px_c 1)) h1) fun z2 h3 =>
  if z2 = 0 then
    mo_islet_29 (px_c (-1)) h3
  else
    px_if (px_ok 0 53 x1) <|
    mo_islet_29 (h3 53 x1.toNatClampNeg) h3
def mo_islet_code : pCode := [(0, .aload_n 0, 1), (1, .iconst 0, 1), (2, .putfield 106, 3), (5, .iload_n 1, 1), (6, .iconst 0, 1), (7, .aload_n 0, 1), (8, .getfield 126, 3), (11, .iconst 1, 1), (12, .isub, 1), (13, .invokestatic 115, 3), (16, .ifCond .eq (12), 3), (19, .aload_n 0, 1), (20, .getfield 17, 3), (23, .iload_n 1, 1), (24, .iaload, 1), (25, .goto (4), 3), (28, .iconst (-1), 1), (29, .ireturn, 1)]
set_option maxRecDepth 200000 in
theorem mo_islet_code_ok : px_code prog_13_method_43_code mo_islet_code = true := by decide +kernel
noncomputable def mo_islet_orc : pC := px_orc [(175, fun a h => match a with
    | [.inl v0, .inl v1, .inl v2] => mo_in v0 v1 v2 h
    | _ => none)]
theorem mo_islet_orc_ok {d : Nat} : px_Or (d + 1) (mo_islet_orc) := px_orc_ok (by
  refine px_o1 (fun a h q e => by
    dsimp only at e
    split at e
    · exact mo_in_ok (d := d + 0) e
    · cases e) ?_
  exact px_o0)
set_option maxRecDepth 200000 in
theorem mo_islet_29_ok {d : Nat} : ∀ (s0 : Int32) (h : pH) (q : Int32 × pH), mo_islet_29 s0 h = some q → px_G (d + 1 + 1) (pX_RX11, prog_13_method_43_code, 2, (some .int)) 29 [none, none] [.inl s0] h q := by
  intro s0 h q e
  exact px_blk_ok (d := d + 1) (M := (pX_RX11, prog_13_method_43_code, 2, (some .int))) (C := mo_islet_orc) (code := mo_islet_code) (ld := []) (kl := []) (mo_islet_orc_ok) pX_ok_RX11 mo_islet_code_ok (px_k0) 23 29 _ _ h q e
set_option maxRecDepth 200000 in
theorem mo_islet_ok {d : Nat} {x1 : Int32} {h : pH} {q : Int32 × pH} (e : mo_islet x1 h = some q) : px_Con (d + 2) 215 [.inr (.inl 51), .inl x1] h q :=
  px_con (X := pX_RX11) (b := prog_13_method_43_code) (nL := 2) (rt := (some .int)) rfl rfl (Nat.le_of_ble_eq_true rfl) rfl (px_blk_ok (d := d + 1) (M := (pX_RX11, prog_13_method_43_code, 2, (some .int))) (C := mo_islet_orc) (code := mo_islet_code) (ld := [29]) (kl := [(29, fun ls st h => px_if (px_fit [0, 0] ls && px_fits [1] st) (mo_islet_29 (px_si st 0) h))]) (mo_islet_orc_ok) pX_ok_RX11 mo_islet_code_ok (px_k1 (px_ko (ts := [0, 0]) (ss := [1]) fun ls st h q e => mo_islet_29_ok _ _ _ e) px_k0) 23 0 _ _ _ q e)
/-! WordsUnsaidModel.hold(II)I -/
noncomputable def mo_hold_23 (h : pH) : pR :=
  some (px_c (-1), h)
noncomputable def mo_hold (x1 : Int32) (x2 : Int32) (h : pH) : pR :=
  let h1 := px_w h 51 14 (px_c 0)
  px_bind (mo_isPerson x1 h1) fun z2 h3 =>
  if z2 = 0 then
    mo_hold_23 h3
  else
    px_bind (mo_in x2 (px_c 1) (px_c 99) h3) fun z4 h5 =>
    if z4 = 0 then
      mo_hold_23 h5
    else
      px_if (px_ok 0 54 x1) <|
      let y3_6 := h5 54 x1.toNatClampNeg
      px_if (px_ok 0 54 x1) <|
      let h7 := px_w h5 54 x1.toNatClampNeg x2
      some (y3_6, h7)
def mo_hold_code : pCode := [(0, .aload_n 0, 1), (1, .iconst 0, 1), (2, .putfield 106, 3), (5, .aload_n 0, 1), (6, .iload_n 1, 1), (7, .invokevirtual 122, 3), (10, .ifCond .eq (13), 3), (13, .iload_n 2, 1), (14, .iconst 1, 1), (15, .bipush (99), 2), (17, .invokestatic 115, 3), (20, .ifCond .ne (5), 3), (23, .iconst (-1), 1), (24, .ireturn, 1), (25, .aload_n 0, 1), (26, .getfield 20, 3), (29, .iload_n 1, 1), (30, .iaload, 1), (31, .istore_n 3, 1), (32, .aload_n 0, 1), (33, .getfield 20, 3), (36, .iload_n 1, 1), (37, .iload_n 2, 1), (38, .iastore, 1), (39, .iload_n 3, 1), (40, .ireturn, 1)]
set_option maxRecDepth 200000 in
theorem mo_hold_code_ok : px_code prog_13_method_44_code mo_hold_code = true := by decide +kernel
noncomputable def mo_hold_orc : pC := px_orc [(179, fun a h => match a with
    | [.inr (.inl 51), .inl v1] => mo_isPerson v1 h
    | _ => none), (175, fun a h => match a with
    | [.inl v0, .inl v1, .inl v2] => mo_in v0 v1 v2 h
    | _ => none)]
theorem mo_hold_orc_ok {d : Nat} : px_Or (d + 2) (mo_hold_orc) := px_orc_ok (by
  refine px_o1 (fun a h q e => by
    dsimp only at e
    split at e
    · exact mo_isPerson_ok (d := d + 0) e
    · cases e) ?_
  refine px_o1 (fun a h q e => by
    dsimp only at e
    split at e
    · exact mo_in_ok (d := d + 1) e
    · cases e) ?_
  exact px_o0)
set_option maxRecDepth 200000 in
theorem mo_hold_23_ok {d : Nat} : ∀ (h : pH) (q : Int32 × pH), mo_hold_23 h = some q → px_G (d + 2 + 1) (pX_RX11, prog_13_method_44_code, 4, (some .int)) 23 [none, none, none, none] [] h q := by
  intro h q e
  exact px_blk_ok (d := d + 2) (M := (pX_RX11, prog_13_method_44_code, 4, (some .int))) (C := mo_hold_orc) (code := mo_hold_code) (ld := []) (kl := []) (mo_hold_orc_ok) pX_ok_RX11 mo_hold_code_ok (px_k0) 31 23 _ _ h q e
set_option maxRecDepth 200000 in
theorem mo_hold_ok {d : Nat} {x1 : Int32} {x2 : Int32} {h : pH} {q : Int32 × pH} (e : mo_hold x1 x2 h = some q) : px_Con (d + 3) 216 [.inr (.inl 51), .inl x1, .inl x2] h q :=
  px_con (X := pX_RX11) (b := prog_13_method_44_code) (nL := 4) (rt := (some .int)) rfl rfl (Nat.le_of_ble_eq_true rfl) rfl (px_blk_ok (d := d + 2) (M := (pX_RX11, prog_13_method_44_code, 4, (some .int))) (C := mo_hold_orc) (code := mo_hold_code) (ld := [23]) (kl := [(23, fun ls st h => px_if (px_fit [0, 0, 0, 0] ls && px_fits [] st) (mo_hold_23 h))]) (mo_hold_orc_ok) pX_ok_RX11 mo_hold_code_ok (px_k1 (px_ko (ts := [0, 0, 0, 0]) (ss := []) fun ls st h q e => mo_hold_23_ok _ _ e) px_k0) 31 0 _ _ _ q e)
/-! WordsUnsaidModel.sheet(IIII)I -/
noncomputable def mo_sheet_20 (h : pH) : pR :=
  some (px_c (-1), h)
noncomputable def mo_sheet_147 (s0 : Int32) (h : pH) : pR :=
  some (s0, h)
noncomputable def mo_sheet_109 (r43 : Int32 → Int32 → Int32 → Int32 → Int32 → Int32 → pH → pR) (x1 : Int32) (x2 : Int32) (x4 : Int32) (x5 : Int32) (x6 : Int32) (x7 : Int32) (s0 : Int32) (s1 : Int32) (h : pH) : pR :=
  px_if (px_ok 0 56 s1) <|
  let h1 := px_w h 56 s1.toNatClampNeg s0
  px_if (px_ok 0 56 x7) <|
  let y5_2 := x5 + (h1 56 x7.toNatClampNeg)
  let y6_3 := x6 + x4
  r43 x1 x2 x4 y5_2 y6_3 (x7 + px_c 1) h1
noncomputable def mo_sheet_94 (r43 : Int32 → Int32 → Int32 → Int32 → Int32 → Int32 → pH → pR) (x1 : Int32) (x2 : Int32) (x4 : Int32) (x5 : Int32) (x6 : Int32) (x7 : Int32) (s0 : Int32) (h : pH) : pR :=
  mo_sheet_109 r43 x1 x2 x4 x5 x6 x7 (px_c 0) s0 h
noncomputable def mo_sheet_75 (r43 : Int32 → Int32 → Int32 → Int32 → Int32 → Int32 → pH → pR) (x1 : Int32) (x2 : Int32) (x4 : Int32) (x5 : Int32) (x6 : Int32) (x7 : Int32) (s0 : Int32) (h : pH) : pR :=
  if x1 = (px_c 3) then
    mo_sheet_94 r43 x1 x2 x4 x5 x6 x7 x7 h
  else
    if x7 < x2 then
      mo_sheet_109 r43 x1 x2 x4 x5 x6 x7 (px_max (px_c 0) (px_min (px_c 9) s0)) x7 h
    else
      mo_sheet_94 r43 x1 x2 x4 x5 x6 x7 x7 h
noncomputable def mo_sheet_43 : Nat → Int32 → Int32 → Int32 → Int32 → Int32 → Int32 → pH → pR
  | 0, _, _, _, _, _, _, _ => none
  | n + 1, x1, x2, x4, x5, x6, x7, h =>
    if (h 51 6) ≤ x7 then
      if x1 = (px_c 3) then
        mo_sheet_147 (px_c (-3)) h
      else
        mo_sheet_147 x5 h
    else
      if x1 = 0 then
        mo_sheet_75 (mo_sheet_43 n) x1 x2 x4 x5 x6 x7 (px_i2b x6) h
      else
        if x1 = (px_c 1) then
          mo_sheet_75 (mo_sheet_43 n) x1 x2 x4 x5 x6 x7 (px_i2s x6) h
        else
          mo_sheet_75 (mo_sheet_43 n) x1 x2 x4 x5 x6 x7 x6 h
noncomputable def mo_sheet_34 (x1 : Int32) (x2 : Int32) (x3 : Int32) (x4 : Int32) (h : pH) : pR :=
  mo_sheet_43 px_F x1 x2 x4 (px_c 0) x3 (px_c 0) h
noncomputable def mo_sheet (x1 : Int32) (x2 : Int32) (x3 : Int32) (x4 : Int32) (h : pH) : pR :=
  let h1 := px_w h 51 14 (px_c 0)
  px_bind (mo_in x1 (px_c 0) (px_c 3) h1) fun z2 h3 =>
  if z2 = 0 then
    mo_sheet_20 h3
  else
    if x2 ≤ (px_c 10) then
      if (px_c 3) ≤ x1 then
        mo_sheet_34 x1 x2 x3 x4 h3
      else
        if 0 ≤ x2 then
          mo_sheet_34 x1 x2 x3 x4 h3
        else
          some (px_c (-2), h3)
    else
      mo_sheet_20 h3
def mo_sheet_code : pCode := [(0, .aload_n 0, 1), (1, .iconst 0, 1), (2, .putfield 106, 3), (5, .iload_n 1, 1), (6, .iconst 0, 1), (7, .iconst 3, 1), (8, .invokestatic 115, 3), (11, .ifCond .eq (9), 3), (14, .iload_n 2, 1), (15, .bipush (10), 2), (17, .if_icmp .le (5), 3), (20, .iconst (-1), 1), (21, .ireturn, 1), (22, .iload_n 1, 1), (23, .iconst 3, 1), (24, .if_icmp .ge (10), 3), (27, .iload_n 2, 1), (28, .ifCond .ge (6), 3), (31, .bipush (-2), 2), (33, .ireturn, 1), (34, .iconst 0, 1), (35, .istore 5, 2), (37, .iload_n 3, 1), (38, .istore 6, 2), (40, .iconst 0, 1), (41, .istore 7, 2), (43, .iload 7, 2), (45, .aload_n 0, 1), (46, .getfield 119, 3), (49, .if_icmp .ge (86), 3), (52, .iload_n 1, 1), (53, .ifCond .ne (9), 3), (56, .iload 6, 2), (58, .i2b, 1), (59, .goto (16), 3), (62, .iload_n 1, 1), (63, .iconst 1, 1), (64, .if_icmp .ne (9), 3), (67, .iload 6, 2), (69, .i2s, 1), (70, .goto (5), 3), (73, .iload 6, 2), (75, .istore 8, 2), (77, .aload_n 0, 1), (78, .getfield 26, 3), (81, .iload 7, 2), (83, .iload_n 1, 1), (84, .iconst 3, 1), (85, .if_icmp .eq (9), 3), (88, .iload 7, 2), (90, .iload_n 2, 1), (91, .if_icmp .lt (7), 3), (94, .iconst 0, 1), (95, .goto (14), 3), (98, .iconst 0, 1), (99, .bipush (9), 2), (101, .iload 8, 2), (103, .invokestatic 254, 3), (106, .invokestatic 259, 3), (109, .iastore, 1), (110, .iload 5, 2), (112, .aload_n 0, 1), (113, .getfield 26, 3), (116, .iload 7, 2), (118, .iaload, 1), (119, .iadd, 1), (120, .istore 5, 2), (122, .iload 6, 2), (124, .iload 4, 2), (126, .iadd, 1), (127, .istore 6, 2), (129, .iinc 7 (1), 3), (132, .goto (-89), 3), (135, .iload_n 1, 1), (136, .iconst 3, 1), (137, .if_icmp .ne (8), 3), (140, .bipush (-3), 2), (142, .goto (5), 3), (145, .iload 5, 2), (147, .ireturn, 1)]
set_option maxRecDepth 200000 in
theorem mo_sheet_code_ok : px_code prog_13_method_45_code mo_sheet_code = true := by decide +kernel
noncomputable def mo_sheet_orc : pC := px_orc [(175, fun a h => match a with
    | [.inl v0, .inl v1, .inl v2] => mo_in v0 v1 v2 h
    | _ => none)]
theorem mo_sheet_orc_ok {d : Nat} : px_Or (d + 1) (mo_sheet_orc) := px_orc_ok (by
  refine px_o1 (fun a h q e => by
    dsimp only at e
    split at e
    · exact mo_in_ok (d := d + 0) e
    · cases e) ?_
  exact px_o0)
set_option maxRecDepth 200000 in
theorem mo_sheet_20_ok {d : Nat} : ∀ (h : pH) (q : Int32 × pH), mo_sheet_20 h = some q → px_G (d + 1 + 1) (pX_RX11, prog_13_method_45_code, 9, (some .int)) 20 [none, none, none, none, none, none, none, none, none] [] h q := by
  intro h q e
  exact px_blk_ok (d := d + 1) (M := (pX_RX11, prog_13_method_45_code, 9, (some .int))) (C := mo_sheet_orc) (code := mo_sheet_code) (ld := []) (kl := []) (mo_sheet_orc_ok) pX_ok_RX11 mo_sheet_code_ok (px_k0) 85 20 _ _ h q e
set_option maxRecDepth 200000 in
theorem mo_sheet_147_ok {d : Nat} : ∀ (s0 : Int32) (h : pH) (q : Int32 × pH), mo_sheet_147 s0 h = some q → px_G (d + 1 + 1) (pX_RX11, prog_13_method_45_code, 9, (some .int)) 147 [none, none, none, none, none, none, none, none, none] [.inl s0] h q := by
  intro s0 h q e
  exact px_blk_ok (d := d + 1) (M := (pX_RX11, prog_13_method_45_code, 9, (some .int))) (C := mo_sheet_orc) (code := mo_sheet_code) (ld := []) (kl := []) (mo_sheet_orc_ok) pX_ok_RX11 mo_sheet_code_ok (px_k0) 85 147 _ _ h q e
set_option maxRecDepth 200000 in
theorem mo_sheet_109_ok {d : Nat} {r43 : Int32 → Int32 → Int32 → Int32 → Int32 → Int32 → pH → pR} (hr43 : ∀ (x1 : Int32) (x2 : Int32) (x4 : Int32) (x5 : Int32) (x6 : Int32) (x7 : Int32) (h : pH) (q : Int32 × pH), r43 x1 x2 x4 x5 x6 x7 h = some q → px_G (d + 1 + 1) (pX_RX11, prog_13_method_45_code, 9, (some .int)) 43 [some (.inr (.inl 51)), some (.inl x1), some (.inl x2), none, some (.inl x4), some (.inl x5), some (.inl x6), some (.inl x7), none] [] h q) : ∀ (x1 : Int32) (x2 : Int32) (x4 : Int32) (x5 : Int32) (x6 : Int32) (x7 : Int32) (s0 : Int32) (s1 : Int32) (h : pH) (q : Int32 × pH), mo_sheet_109 r43 x1 x2 x4 x5 x6 x7 s0 s1 h = some q → px_G (d + 1 + 1) (pX_RX11, prog_13_method_45_code, 9, (some .int)) 109 [some (.inr (.inl 51)), some (.inl x1), some (.inl x2), none, some (.inl x4), some (.inl x5), some (.inl x6), some (.inl x7), none] [.inl s0, .inl s1, .inr (.inl 56)] h q := by
  intro x1 x2 x4 x5 x6 x7 s0 s1 h q e
  exact px_blk_ok (d := d + 1) (M := (pX_RX11, prog_13_method_45_code, 9, (some .int))) (C := mo_sheet_orc) (code := mo_sheet_code) (ld := [43]) (kl := [(43, fun ls st h => px_if (px_fit [61, 1, 1, 0, 1, 1, 1, 1, 0] ls && px_fits [] st) (r43 (px_gi ls 1) (px_gi ls 2) (px_gi ls 4) (px_gi ls 5) (px_gi ls 6) (px_gi ls 7) h))]) (mo_sheet_orc_ok) pX_ok_RX11 mo_sheet_code_ok (px_k1 (px_ko (ts := [61, 1, 1, 0, 1, 1, 1, 1, 0]) (ss := []) fun ls st h q e => hr43 _ _ _ _ _ _ _ _ e) px_k0) 85 109 _ _ h q e
set_option maxRecDepth 200000 in
theorem mo_sheet_94_ok {d : Nat} {r43 : Int32 → Int32 → Int32 → Int32 → Int32 → Int32 → pH → pR} (hr43 : ∀ (x1 : Int32) (x2 : Int32) (x4 : Int32) (x5 : Int32) (x6 : Int32) (x7 : Int32) (h : pH) (q : Int32 × pH), r43 x1 x2 x4 x5 x6 x7 h = some q → px_G (d + 1 + 1) (pX_RX11, prog_13_method_45_code, 9, (some .int)) 43 [some (.inr (.inl 51)), some (.inl x1), some (.inl x2), none, some (.inl x4), some (.inl x5), some (.inl x6), some (.inl x7), none] [] h q) : ∀ (x1 : Int32) (x2 : Int32) (x4 : Int32) (x5 : Int32) (x6 : Int32) (x7 : Int32) (s0 : Int32) (h : pH) (q : Int32 × pH), mo_sheet_94 r43 x1 x2 x4 x5 x6 x7 s0 h = some q → px_G (d + 1 + 1) (pX_RX11, prog_13_method_45_code, 9, (some .int)) 94 [some (.inr (.inl 51)), some (.inl x1), some (.inl x2), none, some (.inl x4), some (.inl x5), some (.inl x6), some (.inl x7), none] [.inl s0, .inr (.inl 56)] h q := by
  intro x1 x2 x4 x5 x6 x7 s0 h q e
  exact px_blk_ok (d := d + 1) (M := (pX_RX11, prog_13_method_45_code, 9, (some .int))) (C := mo_sheet_orc) (code := mo_sheet_code) (ld := [109]) (kl := [(109, fun ls st h => px_if (px_fit [61, 1, 1, 0, 1, 1, 1, 1, 0] ls && px_fits [1, 1, 66] st) (mo_sheet_109 r43 (px_gi ls 1) (px_gi ls 2) (px_gi ls 4) (px_gi ls 5) (px_gi ls 6) (px_gi ls 7) (px_si st 0) (px_si st 1) h))]) (mo_sheet_orc_ok) pX_ok_RX11 mo_sheet_code_ok (px_k1 (px_ko (ts := [61, 1, 1, 0, 1, 1, 1, 1, 0]) (ss := [1, 1, 66]) fun ls st h q e => mo_sheet_109_ok hr43 _ _ _ _ _ _ _ _ _ _ e) px_k0) 85 94 _ _ h q e
set_option maxRecDepth 200000 in
theorem mo_sheet_75_ok {d : Nat} {r43 : Int32 → Int32 → Int32 → Int32 → Int32 → Int32 → pH → pR} (hr43 : ∀ (x1 : Int32) (x2 : Int32) (x4 : Int32) (x5 : Int32) (x6 : Int32) (x7 : Int32) (h : pH) (q : Int32 × pH), r43 x1 x2 x4 x5 x6 x7 h = some q → px_G (d + 1 + 1) (pX_RX11, prog_13_method_45_code, 9, (some .int)) 43 [some (.inr (.inl 51)), some (.inl x1), some (.inl x2), none, some (.inl x4), some (.inl x5), some (.inl x6), some (.inl x7), none] [] h q) : ∀ (x1 : Int32) (x2 : Int32) (x4 : Int32) (x5 : Int32) (x6 : Int32) (x7 : Int32) (s0 : Int32) (h : pH) (q : Int32 × pH), mo_sheet_75 r43 x1 x2 x4 x5 x6 x7 s0 h = some q → px_G (d + 1 + 1) (pX_RX11, prog_13_method_45_code, 9, (some .int)) 75 [some (.inr (.inl 51)), some (.inl x1), some (.inl x2), none, some (.inl x4), some (.inl x5), some (.inl x6), some (.inl x7), none] [.inl s0] h q := by
  intro x1 x2 x4 x5 x6 x7 s0 h q e
  exact px_blk_ok (d := d + 1) (M := (pX_RX11, prog_13_method_45_code, 9, (some .int))) (C := mo_sheet_orc) (code := mo_sheet_code) (ld := [94, 109]) (kl := [(94, fun ls st h => px_if (px_fit [61, 1, 1, 0, 1, 1, 1, 1, 0] ls && px_fits [1, 66] st) (mo_sheet_94 r43 (px_gi ls 1) (px_gi ls 2) (px_gi ls 4) (px_gi ls 5) (px_gi ls 6) (px_gi ls 7) (px_si st 0) h)), (109, fun ls st h => px_if (px_fit [61, 1, 1, 0, 1, 1, 1, 1, 0] ls && px_fits [1, 1, 66] st) (mo_sheet_109 r43 (px_gi ls 1) (px_gi ls 2) (px_gi ls 4) (px_gi ls 5) (px_gi ls 6) (px_gi ls 7) (px_si st 0) (px_si st 1) h))]) (mo_sheet_orc_ok) pX_ok_RX11 mo_sheet_code_ok (px_k1 (px_ko (ts := [61, 1, 1, 0, 1, 1, 1, 1, 0]) (ss := [1, 66]) fun ls st h q e => mo_sheet_94_ok hr43 _ _ _ _ _ _ _ _ _ e) (px_k1 (px_ko (ts := [61, 1, 1, 0, 1, 1, 1, 1, 0]) (ss := [1, 1, 66]) fun ls st h q e => mo_sheet_109_ok hr43 _ _ _ _ _ _ _ _ _ _ e) px_k0)) 85 75 _ _ h q e
set_option maxRecDepth 200000 in
theorem mo_sheet_43_ok {d : Nat} : ∀ (n : Nat) (x1 : Int32) (x2 : Int32) (x4 : Int32) (x5 : Int32) (x6 : Int32) (x7 : Int32) (h : pH) (q : Int32 × pH), mo_sheet_43 n x1 x2 x4 x5 x6 x7 h = some q → px_G (d + 1 + 1) (pX_RX11, prog_13_method_45_code, 9, (some .int)) 43 [some (.inr (.inl 51)), some (.inl x1), some (.inl x2), none, some (.inl x4), some (.inl x5), some (.inl x6), some (.inl x7), none] [] h q := by
  intro n
  induction n with
  | zero =>
    intro x1 x2 x4 x5 x6 x7 h q e
    cases e
  | succ n ih =>
    intro x1 x2 x4 x5 x6 x7 h q e
    exact px_blk_ok (d := d + 1) (M := (pX_RX11, prog_13_method_45_code, 9, (some .int))) (C := mo_sheet_orc) (code := mo_sheet_code) (ld := [75, 147]) (kl := [(75, fun ls st h => px_if (px_fit [61, 1, 1, 0, 1, 1, 1, 1, 0] ls && px_fits [1] st) (mo_sheet_75 (mo_sheet_43 n) (px_gi ls 1) (px_gi ls 2) (px_gi ls 4) (px_gi ls 5) (px_gi ls 6) (px_gi ls 7) (px_si st 0) h)), (147, fun ls st h => px_if (px_fit [0, 0, 0, 0, 0, 0, 0, 0, 0] ls && px_fits [1] st) (mo_sheet_147 (px_si st 0) h))]) (mo_sheet_orc_ok) pX_ok_RX11 mo_sheet_code_ok (px_k1 (px_ko (ts := [61, 1, 1, 0, 1, 1, 1, 1, 0]) (ss := [1]) fun ls st h q e => mo_sheet_75_ok ih _ _ _ _ _ _ _ _ _ e) (px_k1 (px_ko (ts := [0, 0, 0, 0, 0, 0, 0, 0, 0]) (ss := [1]) fun ls st h q e => mo_sheet_147_ok _ _ _ e) px_k0)) 85 43 _ _ h q e
set_option maxRecDepth 200000 in
theorem mo_sheet_34_ok {d : Nat} : ∀ (x1 : Int32) (x2 : Int32) (x3 : Int32) (x4 : Int32) (h : pH) (q : Int32 × pH), mo_sheet_34 x1 x2 x3 x4 h = some q → px_G (d + 1 + 1) (pX_RX11, prog_13_method_45_code, 9, (some .int)) 34 [some (.inr (.inl 51)), some (.inl x1), some (.inl x2), some (.inl x3), some (.inl x4), none, none, none, none] [] h q := by
  intro x1 x2 x3 x4 h q e
  exact px_blk_ok (d := d + 1) (M := (pX_RX11, prog_13_method_45_code, 9, (some .int))) (C := mo_sheet_orc) (code := mo_sheet_code) (ld := [43]) (kl := [(43, fun ls st h => px_if (px_fit [61, 1, 1, 0, 1, 1, 1, 1, 0] ls && px_fits [] st) (mo_sheet_43 px_F (px_gi ls 1) (px_gi ls 2) (px_gi ls 4) (px_gi ls 5) (px_gi ls 6) (px_gi ls 7) h))]) (mo_sheet_orc_ok) pX_ok_RX11 mo_sheet_code_ok (px_k1 (px_ko (ts := [61, 1, 1, 0, 1, 1, 1, 1, 0]) (ss := []) fun ls st h q e => mo_sheet_43_ok _ _ _ _ _ _ _ _ _ e) px_k0) 85 34 _ _ h q e
set_option maxRecDepth 200000 in
theorem mo_sheet_ok {d : Nat} {x1 : Int32} {x2 : Int32} {x3 : Int32} {x4 : Int32} {h : pH} {q : Int32 × pH} (e : mo_sheet x1 x2 x3 x4 h = some q) : px_Con (d + 2) 217 [.inr (.inl 51), .inl x1, .inl x2, .inl x3, .inl x4] h q :=
  px_con (X := pX_RX11) (b := prog_13_method_45_code) (nL := 9) (rt := (some .int)) rfl rfl (Nat.le_of_ble_eq_true rfl) rfl (px_blk_ok (d := d + 1) (M := (pX_RX11, prog_13_method_45_code, 9, (some .int))) (C := mo_sheet_orc) (code := mo_sheet_code) (ld := [34, 20]) (kl := [(34, fun ls st h => px_if (px_fit [61, 1, 1, 1, 1, 0, 0, 0, 0] ls && px_fits [] st) (mo_sheet_34 (px_gi ls 1) (px_gi ls 2) (px_gi ls 3) (px_gi ls 4) h)), (20, fun ls st h => px_if (px_fit [0, 0, 0, 0, 0, 0, 0, 0, 0] ls && px_fits [] st) (mo_sheet_20 h))]) (mo_sheet_orc_ok) pX_ok_RX11 mo_sheet_code_ok (px_k1 (px_ko (ts := [61, 1, 1, 1, 1, 0, 0, 0, 0]) (ss := []) fun ls st h q e => mo_sheet_34_ok _ _ _ _ _ _ e) (px_k1 (px_ko (ts := [0, 0, 0, 0, 0, 0, 0, 0, 0]) (ss := []) fun ls st h q e => mo_sheet_20_ok _ _ e) px_k0)) 85 0 _ _ _ q e)
/-! WordsUnsaidModel.distance(II)I -/
noncomputable def mo_distance (x1 : Int32) (x2 : Int32) (h : pH) : pR :=
  px_bind (mo_yardOf x1 h) fun z1 h2 =>
  px_bind (mo_yardOf x2 h2) fun z3 h4 =>
  some (px_abs (z1 - z3), h4)
def mo_distance_code : pCode := [(0, .aload_n 0, 1), (1, .iload_n 1, 1), (2, .invokevirtual 262, 3), (5, .aload_n 0, 1), (6, .iload_n 2, 1), (7, .invokevirtual 262, 3), (10, .isub, 1), (11, .invokestatic 265, 3), (14, .ireturn, 1)]
set_option maxRecDepth 200000 in
theorem mo_distance_code_ok : px_code prog_13_method_46_code mo_distance_code = true := by decide +kernel
noncomputable def mo_distance_orc : pC := px_orc [(184, fun a h => match a with
    | [.inr (.inl 51), .inl v1] => mo_yardOf v1 h
    | _ => none)]
theorem mo_distance_orc_ok {d : Nat} : px_Or (d + 1) (mo_distance_orc) := px_orc_ok (by
  refine px_o1 (fun a h q e => by
    dsimp only at e
    split at e
    · exact mo_yardOf_ok (d := d + 0) e
    · cases e) ?_
  exact px_o0)
set_option maxRecDepth 200000 in
theorem mo_distance_ok {d : Nat} {x1 : Int32} {x2 : Int32} {h : pH} {q : Int32 × pH} (e : mo_distance x1 x2 h = some q) : px_Con (d + 2) 218 [.inr (.inl 51), .inl x1, .inl x2] h q :=
  px_con (X := pX_RX11) (b := prog_13_method_46_code) (nL := 3) (rt := (some .int)) rfl rfl (Nat.le_of_ble_eq_true rfl) rfl (px_blk_ok (d := d + 1) (M := (pX_RX11, prog_13_method_46_code, 3, (some .int))) (C := mo_distance_orc) (code := mo_distance_code) (ld := []) (kl := []) (mo_distance_orc_ok) pX_ok_RX11 mo_distance_code_ok (px_k0) 14 0 _ _ _ q e)
/-! WordsUnsaidModel.put([III)V -/
noncomputable def mo_put_26 (r3 : Nat → Int32 → Int32 → Int32 → pH → pR) (a1 : Nat) (x2 : Int32) (x3 : Int32) (x4 : Int32) (h : pH) : pR :=
  r3 a1 x2 x3 (x4 + px_c 1) h
noncomputable def mo_put_3 : Nat → Nat → Int32 → Int32 → Int32 → pH → pR
  | 0, _, _, _, _, _ => none
  | n + 1, a1, x2, x3, x4, h =>
    if (h 51 4) ≤ x4 then
      some (0, h)
    else
      px_bind (mo_has x2 x4 h) fun z1 h2 =>
      if z1 = 0 then
        mo_put_26 (mo_put_3 n) a1 x2 x3 x4 h2
      else
        px_if (px_ok 0 a1 x4) <|
        let h3 := px_w h2 a1 x4.toNatClampNeg x3
        mo_put_26 (mo_put_3 n) a1 x2 x3 x4 h3
noncomputable def mo_put (a1 : Nat) (x2 : Int32) (x3 : Int32) (h : pH) : pR :=
  mo_put_3 px_F a1 x2 x3 (px_c 0) h
def mo_put_code : pCode := [(0, .iconst 0, 1), (1, .istore 4, 2), (3, .iload 4, 2), (5, .aload_n 0, 1), (6, .getfield 112, 3), (9, .if_icmp .ge (23), 3), (12, .iload_n 2, 1), (13, .iload 4, 2), (15, .invokestatic 227, 3), (18, .ifCond .eq (8), 3), (21, .aload_n 1, 1), (22, .iload 4, 2), (24, .iload_n 3, 1), (25, .iastore, 1), (26, .iinc 4 (1), 3), (29, .goto (-26), 3), (32, .return_, 1)]
set_option maxRecDepth 200000 in
theorem mo_put_code_ok : px_code prog_13_method_48_code mo_put_code = true := by decide +kernel
noncomputable def mo_put_orc : pC := px_orc [(176, fun a h => match a with
    | [.inl v0, .inl v1] => mo_has v0 v1 h
    | _ => none)]
theorem mo_put_orc_ok {d : Nat} : px_Or (d + 1) (mo_put_orc) := px_orc_ok (by
  refine px_o1 (fun a h q e => by
    dsimp only at e
    split at e
    · exact mo_has_ok (d := d + 0) e
    · cases e) ?_
  exact px_o0)
set_option maxRecDepth 200000 in
theorem mo_put_26_ok {d : Nat} {r3 : Nat → Int32 → Int32 → Int32 → pH → pR} (hr3 : ∀ (a1 : Nat) (x2 : Int32) (x3 : Int32) (x4 : Int32) (h : pH) (q : Int32 × pH), r3 a1 x2 x3 x4 h = some q → px_G (d + 1 + 1) (pX_RX11, prog_13_method_48_code, 5, none) 3 [some (.inr (.inl 51)), some (.inr (.inl a1)), some (.inl x2), some (.inl x3), some (.inl x4)] [] h q) : ∀ (a1 : Nat) (x2 : Int32) (x3 : Int32) (x4 : Int32) (h : pH) (q : Int32 × pH), mo_put_26 r3 a1 x2 x3 x4 h = some q → px_G (d + 1 + 1) (pX_RX11, prog_13_method_48_code, 5, none) 26 [some (.inr (.inl 51)), some (.inr (.inl a1)), some (.inl x2), some (.inl x3), some (.inl x4)] [] h q := by
  intro a1 x2 x3 x4 h q e
  exact px_blk_ok (d := d + 1) (M := (pX_RX11, prog_13_method_48_code, 5, none)) (C := mo_put_orc) (code := mo_put_code) (ld := [3]) (kl := [(3, fun ls st h => px_if (px_fit [61, 2, 1, 1, 1] ls && px_fits [] st) (r3 (px_gr ls 1) (px_gi ls 2) (px_gi ls 3) (px_gi ls 4) h))]) (mo_put_orc_ok) pX_ok_RX11 mo_put_code_ok (px_k1 (px_ko (ts := [61, 2, 1, 1, 1]) (ss := []) fun ls st h q e => hr3 _ _ _ _ _ _ e) px_k0) 22 26 _ _ h q e
set_option maxRecDepth 200000 in
theorem mo_put_3_ok {d : Nat} : ∀ (n : Nat) (a1 : Nat) (x2 : Int32) (x3 : Int32) (x4 : Int32) (h : pH) (q : Int32 × pH), mo_put_3 n a1 x2 x3 x4 h = some q → px_G (d + 1 + 1) (pX_RX11, prog_13_method_48_code, 5, none) 3 [some (.inr (.inl 51)), some (.inr (.inl a1)), some (.inl x2), some (.inl x3), some (.inl x4)] [] h q := by
  intro n
  induction n with
  | zero =>
    intro a1 x2 x3 x4 h q e
    cases e
  | succ n ih =>
    intro a1 x2 x3 x4 h q e
    exact px_blk_ok (d := d + 1) (M := (pX_RX11, prog_13_method_48_code, 5, none)) (C := mo_put_orc) (code := mo_put_code) (ld := [26]) (kl := [(26, fun ls st h => px_if (px_fit [61, 2, 1, 1, 1] ls && px_fits [] st) (mo_put_26 (mo_put_3 n) (px_gr ls 1) (px_gi ls 2) (px_gi ls 3) (px_gi ls 4) h))]) (mo_put_orc_ok) pX_ok_RX11 mo_put_code_ok (px_k1 (px_ko (ts := [61, 2, 1, 1, 1]) (ss := []) fun ls st h q e => mo_put_26_ok ih _ _ _ _ _ _ e) px_k0) 22 3 _ _ h q e
set_option maxRecDepth 200000 in
theorem mo_put_ok {d : Nat} {a1 : Nat} {x2 : Int32} {x3 : Int32} {h : pH} {q : Int32 × pH} (e : mo_put a1 x2 x3 h = some q) : px_Con (d + 2) 220 [.inr (.inl 51), .inr (.inl a1), .inl x2, .inl x3] h q :=
  px_con (X := pX_RX11) (b := prog_13_method_48_code) (nL := 5) (rt := none) rfl rfl (Nat.le_of_ble_eq_true rfl) rfl (px_blk_ok (d := d + 1) (M := (pX_RX11, prog_13_method_48_code, 5, none)) (C := mo_put_orc) (code := mo_put_code) (ld := [3]) (kl := [(3, fun ls st h => px_if (px_fit [61, 2, 1, 1, 1] ls && px_fits [] st) (mo_put_3 px_F (px_gr ls 1) (px_gi ls 2) (px_gi ls 3) (px_gi ls 4) h))]) (mo_put_orc_ok) pX_ok_RX11 mo_put_code_ok (px_k1 (px_ko (ts := [61, 2, 1, 1, 1]) (ss := []) fun ls st h q e => mo_put_3_ok _ _ _ _ _ _ _ e) px_k0) 22 0 _ _ _ q e)
/-! WordsUnsaidModel.stranded(II)I -/
noncomputable def mo_stranded_97 (r17 : Int32 → Int32 → Int32 → Int32 → Int32 → pH → pR) (x2 : Int32) (x3 : Int32) (x4 : Int32) (x5 : Int32) (x6 : Int32) (h : pH) : pR :=
  r17 x2 x3 x4 x5 (x6 + px_c 1) h
noncomputable def mo_stranded_52 (r17 : Int32 → Int32 → Int32 → Int32 → Int32 → pH → pR) (x2 : Int32) (x3 : Int32) (x4 : Int32) (x5 : Int32) (x6 : Int32) (s0 : Int32) (h : pH) : pR :=
  px_bind (mo_in s0 (px_c 1) (h 51 31) h) fun z1 h2 =>
  if z1 = 0 then
    mo_stranded_97 r17 x2 x3 x4 x5 x6 h2
  else
    if ((h2 51 31) - s0) < x5 then
      let y5_3 := (h2 51 31) - s0
      let y4_4 := (px_c 2) + x6
      mo_stranded_97 r17 x2 x3 y4_4 y5_3 x6 h2
    else
      mo_stranded_97 r17 x2 x3 x4 x5 x6 h2
noncomputable def mo_stranded_17 : Nat → Int32 → Int32 → Int32 → Int32 → Int32 → pH → pR
  | 0, _, _, _, _, _, _ => none
  | n + 1, x2, x3, x4, x5, x6, h =>
    if (h 51 2) ≤ x6 then
      some (x4, h)
    else
      if x2 = (px_c 1) then
        px_if (px_ok 0 53 x6) <|
        mo_stranded_52 (mo_stranded_17 n) x2 x3 x4 x5 x6 ((h 53 x6.toNatClampNeg) - x3) h
      else
        px_if (px_ok 0 53 x6) <|
        mo_stranded_52 (mo_stranded_17 n) x2 x3 x4 x5 x6 (x3 - (h 53 x6.toNatClampNeg)) h
noncomputable def mo_stranded (x1 : Int32) (x2 : Int32) (h : pH) : pR :=
  px_bind (mo_yardOf x1 h) fun z1 h2 =>
  let y5_3 := px_k 1000000
  mo_stranded_17 px_F x2 z1 x1 y5_3 (px_c 0) h2
def mo_stranded_code : pCode := [(0, .aload_n 0, 1), (1, .iload_n 1, 1), (2, .invokevirtual 262, 3), (5, .istore_n 3, 1), (6, .iload_n 1, 1), (7, .istore 4, 2), (9, .ldc_w 291, 3), (12, .istore 5, 2), (14, .iconst 0, 1), (15, .istore 6, 2), (17, .iload 6, 2), (19, .aload_n 0, 1), (20, .getfield 126, 3), (23, .if_icmp .ge (80), 3), (26, .iload_n 2, 1), (27, .iconst 1, 1), (28, .if_icmp .ne (15), 3), (31, .aload_n 0, 1), (32, .getfield 17, 3), (35, .iload 6, 2), (37, .iaload, 1), (38, .iload_n 3, 1), (39, .isub, 1), (40, .goto (12), 3), (43, .iload_n 3, 1), (44, .aload_n 0, 1), (45, .getfield 17, 3), (48, .iload 6, 2), (50, .iaload, 1), (51, .isub, 1), (52, .istore 7, 2), (54, .iload 7, 2), (56, .iconst 1, 1), (57, .aload_n 0, 1), (58, .getfield 271, 3), (61, .invokestatic 115, 3), (64, .ifCond .eq (33), 3), (67, .aload_n 0, 1), (68, .getfield 271, 3), (71, .iload 7, 2), (73, .isub, 1), (74, .iload 5, 2), (76, .if_icmp .lt (6), 3), (79, .goto (18), 3), (82, .aload_n 0, 1), (83, .getfield 271, 3), (86, .iload 7, 2), (88, .isub, 1), (89, .istore 5, 2), (91, .iconst 2, 1), (92, .iload 6, 2), (94, .iadd, 1), (95, .istore 4, 2), (97, .iinc 6 (1), 3), (100, .goto (-83), 3), (103, .iload 4, 2), (105, .ireturn, 1)]
set_option maxRecDepth 200000 in
theorem mo_stranded_code_ok : px_code prog_13_method_49_code mo_stranded_code = true := by decide +kernel
noncomputable def mo_stranded_orc : pC := px_orc [(175, fun a h => match a with
    | [.inl v0, .inl v1, .inl v2] => mo_in v0 v1 v2 h
    | _ => none), (184, fun a h => match a with
    | [.inr (.inl 51), .inl v1] => mo_yardOf v1 h
    | _ => none)]
theorem mo_stranded_orc_ok {d : Nat} : px_Or (d + 1) (mo_stranded_orc) := px_orc_ok (by
  refine px_o1 (fun a h q e => by
    dsimp only at e
    split at e
    · exact mo_in_ok (d := d + 0) e
    · cases e) ?_
  refine px_o1 (fun a h q e => by
    dsimp only at e
    split at e
    · exact mo_yardOf_ok (d := d + 0) e
    · cases e) ?_
  exact px_o0)
set_option maxRecDepth 200000 in
theorem mo_stranded_97_ok {d : Nat} {r17 : Int32 → Int32 → Int32 → Int32 → Int32 → pH → pR} (hr17 : ∀ (x2 : Int32) (x3 : Int32) (x4 : Int32) (x5 : Int32) (x6 : Int32) (h : pH) (q : Int32 × pH), r17 x2 x3 x4 x5 x6 h = some q → px_G (d + 1 + 1) (pX_RX11, prog_13_method_49_code, 8, (some .int)) 17 [some (.inr (.inl 51)), none, some (.inl x2), some (.inl x3), some (.inl x4), some (.inl x5), some (.inl x6), none] [] h q) : ∀ (x2 : Int32) (x3 : Int32) (x4 : Int32) (x5 : Int32) (x6 : Int32) (h : pH) (q : Int32 × pH), mo_stranded_97 r17 x2 x3 x4 x5 x6 h = some q → px_G (d + 1 + 1) (pX_RX11, prog_13_method_49_code, 8, (some .int)) 97 [some (.inr (.inl 51)), none, some (.inl x2), some (.inl x3), some (.inl x4), some (.inl x5), some (.inl x6), none] [] h q := by
  intro x2 x3 x4 x5 x6 h q e
  exact px_blk_ok (d := d + 1) (M := (pX_RX11, prog_13_method_49_code, 8, (some .int))) (C := mo_stranded_orc) (code := mo_stranded_code) (ld := [17]) (kl := [(17, fun ls st h => px_if (px_fit [61, 0, 1, 1, 1, 1, 1, 0] ls && px_fits [] st) (r17 (px_gi ls 2) (px_gi ls 3) (px_gi ls 4) (px_gi ls 5) (px_gi ls 6) h))]) (mo_stranded_orc_ok) pX_ok_RX11 mo_stranded_code_ok (px_k1 (px_ko (ts := [61, 0, 1, 1, 1, 1, 1, 0]) (ss := []) fun ls st h q e => hr17 _ _ _ _ _ _ _ e) px_k0) 62 97 _ _ h q e
set_option maxRecDepth 200000 in
theorem mo_stranded_52_ok {d : Nat} {r17 : Int32 → Int32 → Int32 → Int32 → Int32 → pH → pR} (hr17 : ∀ (x2 : Int32) (x3 : Int32) (x4 : Int32) (x5 : Int32) (x6 : Int32) (h : pH) (q : Int32 × pH), r17 x2 x3 x4 x5 x6 h = some q → px_G (d + 1 + 1) (pX_RX11, prog_13_method_49_code, 8, (some .int)) 17 [some (.inr (.inl 51)), none, some (.inl x2), some (.inl x3), some (.inl x4), some (.inl x5), some (.inl x6), none] [] h q) : ∀ (x2 : Int32) (x3 : Int32) (x4 : Int32) (x5 : Int32) (x6 : Int32) (s0 : Int32) (h : pH) (q : Int32 × pH), mo_stranded_52 r17 x2 x3 x4 x5 x6 s0 h = some q → px_G (d + 1 + 1) (pX_RX11, prog_13_method_49_code, 8, (some .int)) 52 [some (.inr (.inl 51)), none, some (.inl x2), some (.inl x3), some (.inl x4), some (.inl x5), some (.inl x6), none] [.inl s0] h q := by
  intro x2 x3 x4 x5 x6 s0 h q e
  exact px_blk_ok (d := d + 1) (M := (pX_RX11, prog_13_method_49_code, 8, (some .int))) (C := mo_stranded_orc) (code := mo_stranded_code) (ld := [97]) (kl := [(97, fun ls st h => px_if (px_fit [61, 0, 1, 1, 1, 1, 1, 0] ls && px_fits [] st) (mo_stranded_97 r17 (px_gi ls 2) (px_gi ls 3) (px_gi ls 4) (px_gi ls 5) (px_gi ls 6) h))]) (mo_stranded_orc_ok) pX_ok_RX11 mo_stranded_code_ok (px_k1 (px_ko (ts := [61, 0, 1, 1, 1, 1, 1, 0]) (ss := []) fun ls st h q e => mo_stranded_97_ok hr17 _ _ _ _ _ _ _ e) px_k0) 62 52 _ _ h q e
set_option maxRecDepth 200000 in
theorem mo_stranded_17_ok {d : Nat} : ∀ (n : Nat) (x2 : Int32) (x3 : Int32) (x4 : Int32) (x5 : Int32) (x6 : Int32) (h : pH) (q : Int32 × pH), mo_stranded_17 n x2 x3 x4 x5 x6 h = some q → px_G (d + 1 + 1) (pX_RX11, prog_13_method_49_code, 8, (some .int)) 17 [some (.inr (.inl 51)), none, some (.inl x2), some (.inl x3), some (.inl x4), some (.inl x5), some (.inl x6), none] [] h q := by
  intro n
  induction n with
  | zero =>
    intro x2 x3 x4 x5 x6 h q e
    cases e
  | succ n ih =>
    intro x2 x3 x4 x5 x6 h q e
    exact px_blk_ok (d := d + 1) (M := (pX_RX11, prog_13_method_49_code, 8, (some .int))) (C := mo_stranded_orc) (code := mo_stranded_code) (ld := [52]) (kl := [(52, fun ls st h => px_if (px_fit [61, 0, 1, 1, 1, 1, 1, 0] ls && px_fits [1] st) (mo_stranded_52 (mo_stranded_17 n) (px_gi ls 2) (px_gi ls 3) (px_gi ls 4) (px_gi ls 5) (px_gi ls 6) (px_si st 0) h))]) (mo_stranded_orc_ok) pX_ok_RX11 mo_stranded_code_ok (px_k1 (px_ko (ts := [61, 0, 1, 1, 1, 1, 1, 0]) (ss := [1]) fun ls st h q e => mo_stranded_52_ok ih _ _ _ _ _ _ _ _ e) px_k0) 62 17 _ _ h q e
set_option maxRecDepth 200000 in
theorem mo_stranded_ok {d : Nat} {x1 : Int32} {x2 : Int32} {h : pH} {q : Int32 × pH} (e : mo_stranded x1 x2 h = some q) : px_Con (d + 2) 221 [.inr (.inl 51), .inl x1, .inl x2] h q :=
  px_con (X := pX_RX11) (b := prog_13_method_49_code) (nL := 8) (rt := (some .int)) rfl rfl (Nat.le_of_ble_eq_true rfl) rfl (px_blk_ok (d := d + 1) (M := (pX_RX11, prog_13_method_49_code, 8, (some .int))) (C := mo_stranded_orc) (code := mo_stranded_code) (ld := [17]) (kl := [(17, fun ls st h => px_if (px_fit [61, 0, 1, 1, 1, 1, 1, 0] ls && px_fits [] st) (mo_stranded_17 px_F (px_gi ls 2) (px_gi ls 3) (px_gi ls 4) (px_gi ls 5) (px_gi ls 6) h))]) (mo_stranded_orc_ok) pX_ok_RX11 mo_stranded_code_ok (px_k1 (px_ko (ts := [61, 0, 1, 1, 1, 1, 1, 0]) (ss := []) fun ls st h q e => mo_stranded_17_ok _ _ _ _ _ _ _ _ e) px_k0) 62 0 _ _ _ q e)
/-! WordsUnsaidModel.wordsIn([I)I -/
noncomputable def mo_wordsIn_4 : Nat → Nat → Int32 → Int32 → pH → pR
  | 0, _, _, _, _ => none
  | n + 1, a1, x2, x3, h =>
    if (h 51 30) ≤ x3 then
      some (x2, h)
    else
      px_if (px_ok 0 65 x3) <|
      px_if (px_ok 0 a1 ((px_c 12) + (h 65 x3.toNatClampNeg))) <|
      let y2_1 := x2 + (h a1 ((px_c 12) + (h 65 x3.toNatClampNeg)).toNatClampNeg)
      mo_wordsIn_4 n a1 y2_1 (x3 + px_c 1) h
noncomputable def mo_wordsIn (a1 : Nat) (h : pH) : pR :=
  mo_wordsIn_4 px_F a1 (px_c 0) (px_c 0) h
def mo_wordsIn_code : pCode := [(0, .iconst 0, 1), (1, .istore_n 2, 1), (2, .iconst 0, 1), (3, .istore_n 3, 1), (4, .iload_n 3, 1), (5, .aload_n 0, 1), (6, .getfield 292, 3), (9, .if_icmp .ge (23), 3), (12, .iload_n 2, 1), (13, .aload_n 1, 1), (14, .bipush (12), 2), (16, .aload_n 0, 1), (17, .getfield 54, 3), (20, .iload_n 3, 1), (21, .iaload, 1), (22, .iadd, 1), (23, .iaload, 1), (24, .iadd, 1), (25, .istore_n 2, 1), (26, .iinc 3 (1), 3), (29, .goto (-25), 3), (32, .iload_n 2, 1), (33, .ireturn, 1)]
set_option maxRecDepth 200000 in
theorem mo_wordsIn_code_ok : px_code prog_13_method_50_code mo_wordsIn_code = true := by decide +kernel
noncomputable def mo_wordsIn_orc : pC := px_orc []
theorem mo_wordsIn_orc_ok {d : Nat} : px_Or (d + 0) (mo_wordsIn_orc) := px_orc_ok (by
  exact px_o0)
set_option maxRecDepth 200000 in
theorem mo_wordsIn_4_ok {d : Nat} : ∀ (n : Nat) (a1 : Nat) (x2 : Int32) (x3 : Int32) (h : pH) (q : Int32 × pH), mo_wordsIn_4 n a1 x2 x3 h = some q → px_G (d + 0 + 1) (pX_RX11, prog_13_method_50_code, 4, (some .int)) 4 [some (.inr (.inl 51)), some (.inr (.inl a1)), some (.inl x2), some (.inl x3)] [] h q := by
  intro n
  induction n with
  | zero =>
    intro a1 x2 x3 h q e
    cases e
  | succ n ih =>
    intro a1 x2 x3 h q e
    exact px_blk_ok (d := d + 0) (M := (pX_RX11, prog_13_method_50_code, 4, (some .int))) (C := mo_wordsIn_orc) (code := mo_wordsIn_code) (ld := [4]) (kl := [(4, fun ls st h => px_if (px_fit [61, 2, 1, 1] ls && px_fits [] st) (mo_wordsIn_4 n (px_gr ls 1) (px_gi ls 2) (px_gi ls 3) h))]) (mo_wordsIn_orc_ok) pX_ok_RX11 mo_wordsIn_code_ok (px_k1 (px_ko (ts := [61, 2, 1, 1]) (ss := []) fun ls st h q e => ih _ _ _ _ _ e) px_k0) 28 4 _ _ h q e
set_option maxRecDepth 200000 in
theorem mo_wordsIn_ok {d : Nat} {a1 : Nat} {h : pH} {q : Int32 × pH} (e : mo_wordsIn a1 h = some q) : px_Con (d + 1) 222 [.inr (.inl 51), .inr (.inl a1)] h q :=
  px_con (X := pX_RX11) (b := prog_13_method_50_code) (nL := 4) (rt := (some .int)) rfl rfl (Nat.le_of_ble_eq_true rfl) rfl (px_blk_ok (d := d + 0) (M := (pX_RX11, prog_13_method_50_code, 4, (some .int))) (C := mo_wordsIn_orc) (code := mo_wordsIn_code) (ld := [4]) (kl := [(4, fun ls st h => px_if (px_fit [61, 2, 1, 1] ls && px_fits [] st) (mo_wordsIn_4 px_F (px_gr ls 1) (px_gi ls 2) (px_gi ls 3) h))]) (mo_wordsIn_orc_ok) pX_ok_RX11 mo_wordsIn_code_ok (px_k1 (px_ko (ts := [61, 2, 1, 1]) (ss := []) fun ls st h q e => mo_wordsIn_4_ok _ _ _ _ _ _ e) px_k0) 28 0 _ _ _ q e)
/-! WordsUnsaidModel.lay([I[II)V -/
noncomputable def mo_lay_2 : Nat → Nat → Nat → Int32 → Int32 → pH → pR
  | 0, _, _, _, _, _ => none
  | n + 1, a0, a1, x2, x3, h =>
    if (px_c 52) ≤ x3 then
      some (0, h)
    else
      px_if (px_ok 0 a0 x3) <|
      px_if (px_ok 0 a1 (x2 + x3)) <|
      let h1 := px_w h a1 (x2 + x3).toNatClampNeg (h a0 x3.toNatClampNeg)
      mo_lay_2 n a0 a1 x2 (x3 + px_c 1) h1
noncomputable def mo_lay (a0 : Nat) (a1 : Nat) (x2 : Int32) (h : pH) : pR :=
  mo_lay_2 px_F a0 a1 x2 (px_c 0) h
def mo_lay_code : pCode := [(0, .iconst 0, 1), (1, .istore_n 3, 1), (2, .iload_n 3, 1), (3, .bipush (52), 2), (5, .if_icmp .ge (17), 3), (8, .aload_n 1, 1), (9, .iload_n 2, 1), (10, .iload_n 3, 1), (11, .iadd, 1), (12, .aload_n 0, 1), (13, .iload_n 3, 1), (14, .iaload, 1), (15, .iastore, 1), (16, .iinc 3 (1), 3), (19, .goto (-17), 3), (22, .return_, 1)]
set_option maxRecDepth 200000 in
theorem mo_lay_code_ok : px_code prog_13_method_51_code mo_lay_code = true := by decide +kernel
noncomputable def mo_lay_orc : pC := px_orc []
theorem mo_lay_orc_ok {d : Nat} : px_Or (d + 0) (mo_lay_orc) := px_orc_ok (by
  exact px_o0)
set_option maxRecDepth 200000 in
theorem mo_lay_2_ok {d : Nat} : ∀ (n : Nat) (a0 : Nat) (a1 : Nat) (x2 : Int32) (x3 : Int32) (h : pH) (q : Int32 × pH), mo_lay_2 n a0 a1 x2 x3 h = some q → px_G (d + 0 + 1) (pX_RX11, prog_13_method_51_code, 4, none) 2 [some (.inr (.inl a0)), some (.inr (.inl a1)), some (.inl x2), some (.inl x3)] [] h q := by
  intro n
  induction n with
  | zero =>
    intro a0 a1 x2 x3 h q e
    cases e
  | succ n ih =>
    intro a0 a1 x2 x3 h q e
    exact px_blk_ok (d := d + 0) (M := (pX_RX11, prog_13_method_51_code, 4, none)) (C := mo_lay_orc) (code := mo_lay_code) (ld := [2]) (kl := [(2, fun ls st h => px_if (px_fit [2, 2, 1, 1] ls && px_fits [] st) (mo_lay_2 n (px_gr ls 0) (px_gr ls 1) (px_gi ls 2) (px_gi ls 3) h))]) (mo_lay_orc_ok) pX_ok_RX11 mo_lay_code_ok (px_k1 (px_ko (ts := [2, 2, 1, 1]) (ss := []) fun ls st h q e => ih _ _ _ _ _ _ e) px_k0) 21 2 _ _ h q e
set_option maxRecDepth 200000 in
theorem mo_lay_ok {d : Nat} {a0 : Nat} {a1 : Nat} {x2 : Int32} {h : pH} {q : Int32 × pH} (e : mo_lay a0 a1 x2 h = some q) : px_Con (d + 1) 223 [.inr (.inl a0), .inr (.inl a1), .inl x2] h q :=
  px_con (X := pX_RX11) (b := prog_13_method_51_code) (nL := 4) (rt := none) rfl rfl (Nat.le_of_ble_eq_true rfl) rfl (px_blk_ok (d := d + 0) (M := (pX_RX11, prog_13_method_51_code, 4, none)) (C := mo_lay_orc) (code := mo_lay_code) (ld := [2]) (kl := [(2, fun ls st h => px_if (px_fit [2, 2, 1, 1] ls && px_fits [] st) (mo_lay_2 px_F (px_gr ls 0) (px_gr ls 1) (px_gi ls 2) (px_gi ls 3) h))]) (mo_lay_orc_ok) pX_ok_RX11 mo_lay_code_ok (px_k1 (px_ko (ts := [2, 2, 1, 1]) (ss := []) fun ls st h q e => mo_lay_2_ok _ _ _ _ _ _ _ e) px_k0) 21 0 _ _ _ q e)
/-! WordsUnsaidModel.remember([I)V -/
noncomputable def mo_remember_49 (a1 : Nat) (h : pH) : pR :=
  px_bind (mo_lay a1 66 ((px_c 52) * (h 51 35)) h) fun _ h2 =>
  let h3 := px_w h2 51 35 ((h2 51 35) + (px_c 1))
  some (0, h3)
noncomputable def mo_remember_11 : Nat → Nat → Int32 → pH → pR
  | 0, _, _, _ => none
  | n + 1, a1, x2, h =>
    if (px_c 572) ≤ x2 then
      let h1 := px_w h 51 35 ((h 51 35) - (px_c 1))
      mo_remember_49 a1 h1
    else
      px_if (px_ok 0 66 (x2 + (px_c 52))) <|
      px_if (px_ok 0 66 x2) <|
      let h2 := px_w h 66 x2.toNatClampNeg (h 66 (x2 + (px_c 52)).toNatClampNeg)
      mo_remember_11 n a1 (x2 + px_c 1) h2
noncomputable def mo_remember (a1 : Nat) (h : pH) : pR :=
  if (h 51 35) = (px_c 12) then
    mo_remember_11 px_F a1 (px_c 0) h
  else
    mo_remember_49 a1 h
def mo_remember_code : pCode := [(0, .aload_n 0, 1), (1, .getfield 177, 3), (4, .bipush (12), 2), (6, .if_icmp .ne (43), 3), (9, .iconst 0, 1), (10, .istore_n 2, 1), (11, .iload_n 2, 1), (12, .sipush (572), 3), (15, .if_icmp .ge (24), 3), (18, .aload_n 0, 1), (19, .getfield 57, 3), (22, .iload_n 2, 1), (23, .aload_n 0, 1), (24, .getfield 57, 3), (27, .iload_n 2, 1), (28, .bipush (52), 2), (30, .iadd, 1), (31, .iaload, 1), (32, .iastore, 1), (33, .iinc 2 (1), 3), (36, .goto (-25), 3), (39, .aload_n 0, 1), (40, .dup, 1), (41, .getfield 177, 3), (44, .iconst 1, 1), (45, .isub, 1), (46, .putfield 177, 3), (49, .aload_n 1, 1), (50, .aload_n 0, 1), (51, .getfield 57, 3), (54, .bipush (52), 2), (56, .aload_n 0, 1), (57, .getfield 177, 3), (60, .imul, 1), (61, .invokestatic 295, 3), (64, .aload_n 0, 1), (65, .dup, 1), (66, .getfield 177, 3), (69, .iconst 1, 1), (70, .iadd, 1), (71, .putfield 177, 3), (74, .return_, 1)]
set_option maxRecDepth 200000 in
theorem mo_remember_code_ok : px_code prog_13_method_52_code mo_remember_code = true := by decide +kernel
noncomputable def mo_remember_orc : pC := px_orc [(223, fun a h => match a with
    | [.inr (.inl v0), .inr (.inl v1), .inl v2] => mo_lay v0 v1 v2 h
    | _ => none)]
theorem mo_remember_orc_ok {d : Nat} : px_Or (d + 1) (mo_remember_orc) := px_orc_ok (by
  refine px_o1 (fun a h q e => by
    dsimp only at e
    split at e
    · exact mo_lay_ok (d := d + 0) e
    · cases e) ?_
  exact px_o0)
set_option maxRecDepth 200000 in
theorem mo_remember_49_ok {d : Nat} : ∀ (a1 : Nat) (h : pH) (q : Int32 × pH), mo_remember_49 a1 h = some q → px_G (d + 1 + 1) (pX_RX11, prog_13_method_52_code, 3, none) 49 [some (.inr (.inl 51)), some (.inr (.inl a1)), none] [] h q := by
  intro a1 h q e
  exact px_blk_ok (d := d + 1) (M := (pX_RX11, prog_13_method_52_code, 3, none)) (C := mo_remember_orc) (code := mo_remember_code) (ld := []) (kl := []) (mo_remember_orc_ok) pX_ok_RX11 mo_remember_code_ok (px_k0) 47 49 _ _ h q e
set_option maxRecDepth 200000 in
theorem mo_remember_11_ok {d : Nat} : ∀ (n : Nat) (a1 : Nat) (x2 : Int32) (h : pH) (q : Int32 × pH), mo_remember_11 n a1 x2 h = some q → px_G (d + 1 + 1) (pX_RX11, prog_13_method_52_code, 3, none) 11 [some (.inr (.inl 51)), some (.inr (.inl a1)), some (.inl x2)] [] h q := by
  intro n
  induction n with
  | zero =>
    intro a1 x2 h q e
    cases e
  | succ n ih =>
    intro a1 x2 h q e
    exact px_blk_ok (d := d + 1) (M := (pX_RX11, prog_13_method_52_code, 3, none)) (C := mo_remember_orc) (code := mo_remember_code) (ld := [11, 49]) (kl := [(11, fun ls st h => px_if (px_fit [61, 2, 1] ls && px_fits [] st) (mo_remember_11 n (px_gr ls 1) (px_gi ls 2) h)), (49, fun ls st h => px_if (px_fit [61, 2, 0] ls && px_fits [] st) (mo_remember_49 (px_gr ls 1) h))]) (mo_remember_orc_ok) pX_ok_RX11 mo_remember_code_ok (px_k1 (px_ko (ts := [61, 2, 1]) (ss := []) fun ls st h q e => ih _ _ _ _ e) (px_k1 (px_ko (ts := [61, 2, 0]) (ss := []) fun ls st h q e => mo_remember_49_ok _ _ _ e) px_k0)) 47 11 _ _ h q e
set_option maxRecDepth 200000 in
theorem mo_remember_ok {d : Nat} {a1 : Nat} {h : pH} {q : Int32 × pH} (e : mo_remember a1 h = some q) : px_Con (d + 2) 224 [.inr (.inl 51), .inr (.inl a1)] h q :=
  px_con (X := pX_RX11) (b := prog_13_method_52_code) (nL := 3) (rt := none) rfl rfl (Nat.le_of_ble_eq_true rfl) rfl (px_blk_ok (d := d + 1) (M := (pX_RX11, prog_13_method_52_code, 3, none)) (C := mo_remember_orc) (code := mo_remember_code) (ld := [11, 49]) (kl := [(11, fun ls st h => px_if (px_fit [61, 2, 1] ls && px_fits [] st) (mo_remember_11 px_F (px_gr ls 1) (px_gi ls 2) h)), (49, fun ls st h => px_if (px_fit [61, 2, 0] ls && px_fits [] st) (mo_remember_49 (px_gr ls 1) h))]) (mo_remember_orc_ok) pX_ok_RX11 mo_remember_code_ok (px_k1 (px_ko (ts := [61, 2, 1]) (ss := []) fun ls st h q e => mo_remember_11_ok _ _ _ _ _ e) (px_k1 (px_ko (ts := [61, 2, 0]) (ss := []) fun ls st h q e => mo_remember_49_ok _ _ _ e) px_k0)) 47 0 _ _ _ q e)
