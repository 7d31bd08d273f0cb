/-! the reference: the rest -/
noncomputable def mo_goParty_137 (rc : pC) (r61 : Int32 → Int32 → Int32 → Int32 → Int32 → pH → pR) (x1 : Int32) (x2 : Int32) (x3 : Int32) (x4 : Int32) (x5 : Int32) (h : pH) : pR :=
  r61 x1 x2 x3 x4 (x5 + px_c 1) h
noncomputable def mo_goParty_116 (rc : pC) (r61 : Int32 → Int32 → Int32 → Int32 → Int32 → pH → pR) (x1 : Int32) (x2 : Int32) (x3 : Int32) (x4 : Int32) (x5 : Int32) (h : pH) : pR :=
  px_bind (rc 262 [.inr (.inl 51), .inl (x1 &&& ((((px_c 1) <<< (x4 &&& 31)) ||| ((px_c 1) <<< (x5 &&& 31))) ^^^ (px_c (-1)))), .inl (x2 + (px_c 1)), .inl x3] h) fun _ h2 =>
  mo_goParty_137 rc r61 x1 x2 x3 x4 x5 h2
noncomputable def mo_goParty_61 (rc : pC) : Nat → Int32 → Int32 → Int32 → Int32 → Int32 → pH → pR
  | 0, _, _, _, _, _, _ => none
  | n + 1, x1, x2, x3, x4, x5, h =>
    if (h 51 4) ≤ x5 then
      some (0, h)
    else
      px_bind (mo_has x1 x5 h) fun z1 h2 =>
      if z1 = 0 then
        mo_goParty_137 rc (mo_goParty_61 rc n) x1 x2 x3 x4 x5 h2
      else
        px_if (px_ok 1 77 (((px_c 6) * x4) + x5) || px_ok 3 77 (((px_c 6) * x4) + x5)) <|
        if (h2 77 (((px_c 6) * x4) + x5).toNatClampNeg) = 0 then
          mo_goParty_137 rc (mo_goParty_61 rc n) x1 x2 x3 x4 x5 h2
        else
          px_if (px_ok 0 75 x4) <|
          let h3 := px_w h2 75 x4.toNatClampNeg x5
          px_if (px_ok 0 75 x5) <|
          let h4 := px_w h3 75 x5.toNatClampNeg x4
          mo_goParty_116 rc (mo_goParty_61 rc n) x1 x2 x3 x4 x5 h4
noncomputable def mo_goParty_21 (rc : pC) : Nat → Int32 → pH → pR
  | 0, _, _ => none
  | n + 1, x4, h =>
    if (h 51 4) ≤ x4 then
      some (0, h)
    else
      px_if (px_ok 0 75 x4) <|
      px_if (px_ok 0 76 x4) <|
      let h1 := px_w h 76 x4.toNatClampNeg (h 75 x4.toNatClampNeg)
      mo_goParty_21 rc n (x4 + px_c 1) h1
noncomputable def mo_goParty (rc : pC) (x1 : Int32) (x2 : Int32) (x3 : Int32) (h : pH) : pR :=
  if x2 < (h 51 56) then
    if x1 = 0 then
      let h1 := px_w h 51 56 x2
      mo_goParty_21 rc px_F (px_c 0) h1
    else
      px_bind (jn_numberOfTrailingZeros x1 h) fun z2 h3 =>
      mo_goParty_61 rc px_F x1 x2 x3 z2 z2 h3
  else
    some (0, h)
def mo_goParty_code : pCode := [(0, .iload_n 2, 1), (1, .aload_n 0, 1), (2, .getfield 436, 3), (5, .if_icmp .lt (4), 3), (8, .return_, 1), (9, .iload_n 1, 1), (10, .ifCond .ne (41), 3), (13, .aload_n 0, 1), (14, .iload_n 2, 1), (15, .putfield 436, 3), (18, .iconst 0, 1), (19, .istore 4, 2), (21, .iload 4, 2), (23, .aload_n 0, 1), (24, .getfield 112, 3), (27, .if_icmp .ge (23), 3), (30, .aload_n 0, 1), (31, .getfield 87, 3), (34, .iload 4, 2), (36, .aload_n 0, 1), (37, .getfield 84, 3), (40, .iload 4, 2), (42, .iaload, 1), (43, .iastore, 1), (44, .iinc 4 (1), 3), (47, .goto (-26), 3), (50, .return_, 1), (51, .iload_n 1, 1), (52, .invokestatic 395, 3), (55, .istore 4, 2), (57, .iload 4, 2), (59, .istore 5, 2), (61, .iload 5, 2), (63, .aload_n 0, 1), (64, .getfield 112, 3), (67, .if_icmp .ge (76), 3), (70, .iload_n 1, 1), (71, .iload 5, 2), (73, .invokestatic 227, 3), (76, .ifCond .eq (61), 3), (79, .aload_n 0, 1), (80, .getfield 90, 3), (83, .bipush (6), 2), (85, .iload 4, 2), (87, .imul, 1), (88, .iload 5, 2), (90, .iadd, 1), (91, .baload, 1), (92, .ifCond .ne (6), 3), (95, .goto (42), 3), (98, .aload_n 0, 1), (99, .getfield 84, 3), (102, .iload 4, 2), (104, .iload 5, 2), (106, .iastore, 1), (107, .aload_n 0, 1), (108, .getfield 84, 3), (111, .iload 5, 2), (113, .iload 4, 2), (115, .iastore, 1), (116, .aload_n 0, 1), (117, .iload_n 1, 1), (118, .iconst 1, 1), (119, .iload 4, 2), (121, .ishl, 1), (122, .iconst 1, 1), (123, .iload 5, 2), (125, .ishl, 1), (126, .ior, 1), (127, .iconst (-1), 1), (128, .ixor, 1), (129, .iand, 1), (130, .iload_n 2, 1), (131, .iconst 1, 1), (132, .iadd, 1), (133, .iload_n 3, 1), (134, .invokevirtual 439, 3), (137, .iinc 5 (1), 3), (140, .goto (-79), 3), (143, .return_, 1)]
set_option maxRecDepth 200000 in
theorem mo_goParty_code_ok : px_code prog_13_method_90_code mo_goParty_code = true := by decide +kernel
noncomputable def mo_goParty_orc (rc : pC) : pC := fun id a h => match px_mem [262] id with
  | true => rc id a h
  | false => px_orc [(176, fun a h => match a with
    | [.inl v0, .inl v1] => mo_has v0 v1 h
    | _ => none), (280, fun a h => match a with
    | [.inl v0] => jn_numberOfTrailingZeros v0 h
    | _ => none)] id a h
theorem mo_goParty_orc_ok {d : Nat} {rc : pC} (hrc : px_Or (d + 1) rc) : px_Or (d + 1) (mo_goParty_orc rc) := by
  intro id a h q e
  unfold mo_goParty_orc at e
  split at e
  · exact hrc id a h q e
  · exact (px_orc_ok (by
      refine px_o1 (fun a h q e => by
        dsimp only at e
        split at e
        · exact mo_has_ok (d := d + 0) e
        · cases e) ?_
      refine px_o1 (fun a h q e => by
        dsimp only at e
        split at e
        · exact jn_numberOfTrailingZeros_ok (d := d + 0) e
        · cases e) ?_
      exact px_o0) : px_Or _ (px_orc [(176, fun a h => match a with
    | [.inl v0, .inl v1] => mo_has v0 v1 h
    | _ => none), (280, fun a h => match a with
    | [.inl v0] => jn_numberOfTrailingZeros v0 h
    | _ => none)])) id a h q e
set_option maxRecDepth 200000 in
theorem mo_goParty_137_ok {d : Nat} {rc : pC} (hrc : px_Or (d + 1) rc) {r61 : Int32 → Int32 → Int32 → Int32 → Int32 → pH → pR} (hr61 : ∀ (x1 : Int32) (x2 : Int32) (x3 : Int32) (x4 : Int32) (x5 : Int32) (h : pH) (q : Int32 × pH), r61 x1 x2 x3 x4 x5 h = some q → px_G (d + 1 + 1) (pX_RX11, prog_13_method_90_code, 6, none) 61 [some (.inr (.inl 51)), some (.inl x1), some (.inl x2), some (.inl x3), some (.inl x4), some (.inl x5)] [] h q) : ∀ (x1 : Int32) (x2 : Int32) (x3 : Int32) (x4 : Int32) (x5 : Int32) (h : pH) (q : Int32 × pH), mo_goParty_137 rc r61 x1 x2 x3 x4 x5 h = some q → px_G (d + 1 + 1) (pX_RX11, prog_13_method_90_code, 6, none) 137 [some (.inr (.inl 51)), some (.inl x1), some (.inl x2), some (.inl x3), some (.inl x4), some (.inl x5)] [] h q := by
  intro x1 x2 x3 x4 x5 h q e
  exact px_blk_ok (d := d + 1) (M := (pX_RX11, prog_13_method_90_code, 6, none)) (C := mo_goParty_orc rc) (code := mo_goParty_code) (ld := [61]) (kl := [(61, fun ls st h => px_if (px_fit [61, 1, 1, 1, 1, 1] ls && px_fits [] st) (r61 (px_gi ls 1) (px_gi ls 2) (px_gi ls 3) (px_gi ls 4) (px_gi ls 5) h))]) (mo_goParty_orc_ok hrc) pX_ok_RX11 mo_goParty_code_ok (px_k1 (px_ko (ts := [61, 1, 1, 1, 1, 1]) (ss := []) fun ls st h q e => hr61 _ _ _ _ _ _ _ e) px_k0) 85 137 _ _ h q e
set_option maxRecDepth 200000 in
theorem mo_goParty_116_ok {d : Nat} {rc : pC} (hrc : px_Or (d + 1) rc) {r61 : Int32 → Int32 → Int32 → Int32 → Int32 → pH → pR} (hr61 : ∀ (x1 : Int32) (x2 : Int32) (x3 : Int32) (x4 : Int32) (x5 : Int32) (h : pH) (q : Int32 × pH), r61 x1 x2 x3 x4 x5 h = some q → px_G (d + 1 + 1) (pX_RX11, prog_13_method_90_code, 6, none) 61 [some (.inr (.inl 51)), some (.inl x1), some (.inl x2), some (.inl x3), some (.inl x4), some (.inl x5)] [] h q) : ∀ (x1 : Int32) (x2 : Int32) (x3 : Int32) (x4 : Int32) (x5 : Int32) (h : pH) (q : Int32 × pH), mo_goParty_116 rc r61 x1 x2 x3 x4 x5 h = some q → px_G (d + 1 + 1) (pX_RX11, prog_13_method_90_code, 6, none) 116 [some (.inr (.inl 51)), some (.inl x1), some (.inl x2), some (.inl x3), some (.inl x4), some (.inl x5)] [] h q := by
  intro x1 x2 x3 x4 x5 h q e
  exact px_blk_ok (d := d + 1) (M := (pX_RX11, prog_13_method_90_code, 6, none)) (C := mo_goParty_orc rc) (code := mo_goParty_code) (ld := [137]) (kl := [(137, fun ls st h => px_if (px_fit [61, 1, 1, 1, 1, 1] ls && px_fits [] st) (mo_goParty_137 rc r61 (px_gi ls 1) (px_gi ls 2) (px_gi ls 3) (px_gi ls 4) (px_gi ls 5) h))]) (mo_goParty_orc_ok hrc) pX_ok_RX11 mo_goParty_code_ok (px_k1 (px_ko (ts := [61, 1, 1, 1, 1, 1]) (ss := []) fun ls st h q e => mo_goParty_137_ok hrc hr61 _ _ _ _ _ _ _ e) px_k0) 85 116 _ _ h q e
set_option maxRecDepth 200000 in
theorem mo_goParty_61_ok {d : Nat} {rc : pC} (hrc : px_Or (d + 1) rc) : ∀ (n : Nat) (x1 : Int32) (x2 : Int32) (x3 : Int32) (x4 : Int32) (x5 : Int32) (h : pH) (q : Int32 × pH), mo_goParty_61 rc n x1 x2 x3 x4 x5 h = some q → px_G (d + 1 + 1) (pX_RX11, prog_13_method_90_code, 6, none) 61 [some (.inr (.inl 51)), some (.inl x1), some (.inl x2), some (.inl x3), some (.inl x4), some (.inl x5)] [] h q := by
  intro n
  induction n with
  | zero =>
    intro x1 x2 x3 x4 x5 h q e
    cases e
  | succ n ih =>
    intro x1 x2 x3 x4 x5 h q e
    exact px_blk_ok (d := d + 1) (M := (pX_RX11, prog_13_method_90_code, 6, none)) (C := mo_goParty_orc rc) (code := mo_goParty_code) (ld := [116, 137]) (kl := [(116, fun ls st h => px_if (px_fit [61, 1, 1, 1, 1, 1] ls && px_fits [] st) (mo_goParty_116 rc (mo_goParty_61 rc n) (px_gi ls 1) (px_gi ls 2) (px_gi ls 3) (px_gi ls 4) (px_gi ls 5) h)), (137, fun ls st h => px_if (px_fit [61, 1, 1, 1, 1, 1] ls && px_fits [] st) (mo_goParty_137 rc (mo_goParty_61 rc n) (px_gi ls 1) (px_gi ls 2) (px_gi ls 3) (px_gi ls 4) (px_gi ls 5) h))]) (mo_goParty_orc_ok hrc) pX_ok_RX11 mo_goParty_code_ok (px_k1 (px_ko (ts := [61, 1, 1, 1, 1, 1]) (ss := []) fun ls st h q e => mo_goParty_116_ok hrc ih _ _ _ _ _ _ _ e) (px_k1 (px_ko (ts := [61, 1, 1, 1, 1, 1]) (ss := []) fun ls st h q e => mo_goParty_137_ok hrc ih _ _ _ _ _ _ _ e) px_k0)) 85 61 _ _ h q e
set_option maxRecDepth 200000 in
theorem mo_goParty_21_ok {d : Nat} {rc : pC} (hrc : px_Or (d + 1) rc) : ∀ (n : Nat) (x4 : Int32) (h : pH) (q : Int32 × pH), mo_goParty_21 rc n x4 h = some q → px_G (d + 1 + 1) (pX_RX11, prog_13_method_90_code, 6, none) 21 [some (.inr (.inl 51)), none, none, none, some (.inl x4), none] [] h q := by
  intro n
  induction n with
  | zero =>
    intro x4 h q e
    cases e
  | succ n ih =>
    intro x4 h q e
    exact px_blk_ok (d := d + 1) (M := (pX_RX11, prog_13_method_90_code, 6, none)) (C := mo_goParty_orc rc) (code := mo_goParty_code) (ld := [21]) (kl := [(21, fun ls st h => px_if (px_fit [61, 0, 0, 0, 1, 0] ls && px_fits [] st) (mo_goParty_21 rc n (px_gi ls 4) h))]) (mo_goParty_orc_ok hrc) pX_ok_RX11 mo_goParty_code_ok (px_k1 (px_ko (ts := [61, 0, 0, 0, 1, 0]) (ss := []) fun ls st h q e => ih _ _ _ e) px_k0) 85 21 _ _ h q e
set_option maxRecDepth 200000 in
theorem mo_goParty_ok {d : Nat} {rc : pC} (hrc : px_Or (d + 1) rc) {x1 : Int32} {x2 : Int32} {x3 : Int32} {h : pH} {q : Int32 × pH} (e : mo_goParty rc x1 x2 x3 h = some q) : px_Con (d + 2) 262 [.inr (.inl 51), .inl x1, .inl x2, .inl x3] h q :=
  px_con (X := pX_RX11) (b := prog_13_method_90_code) (nL := 6) (rt := none) rfl rfl (Nat.le_of_ble_eq_true rfl) rfl (px_blk_ok (d := d + 1) (M := (pX_RX11, prog_13_method_90_code, 6, none)) (C := mo_goParty_orc rc) (code := mo_goParty_code) (ld := [21, 61]) (kl := [(21, fun ls st h => px_if (px_fit [61, 0, 0, 0, 1, 0] ls && px_fits [] st) (mo_goParty_21 rc px_F (px_gi ls 4) h)), (61, fun ls st h => px_if (px_fit [61, 1, 1, 1, 1, 1] ls && px_fits [] st) (mo_goParty_61 rc px_F (px_gi ls 1) (px_gi ls 2) (px_gi ls 3) (px_gi ls 4) (px_gi ls 5) h))]) (mo_goParty_orc_ok hrc) pX_ok_RX11 mo_goParty_code_ok (px_k1 (px_ko (ts := [61, 0, 0, 0, 1, 0]) (ss := []) fun ls st h q e => mo_goParty_21_ok hrc _ _ _ _ e) (px_k1 (px_ko (ts := [61, 1, 1, 1, 1, 1]) (ss := []) fun ls st h q e => mo_goParty_61_ok hrc _ _ _ _ _ _ _ _ e) px_k0)) 85 0 _ _ _ q e)
noncomputable def mo_goPartyG : Nat → pC
  | 0 => fun _ _ _ => none
  | n + 1 => px_orc [(262, fun a h => match a with
      | [.inr (.inl 51), .inl v1, .inl v2, .inl v3] => mo_goParty (mo_goPartyG n) v1 v2 v3 h
      | _ => none)]
theorem mo_goPartyG_ok {d : Nat} : ∀ n : Nat, px_Or (d + n + 1) (mo_goPartyG n) := by
  intro n
  induction n with
  | zero => intro id a h q e; cases e
  | succ n ih =>
    show px_Or (d + n + 1 + 1) _
    refine px_orc_ok ?_
    refine px_o1 (fun a h q e => by
      dsimp only at e
      split at e
      · exact mo_goParty_ok (d := d + n) ih e
      · cases e) ?_
    exact px_o0
noncomputable def mo_goPartyT (x1 : Int32) (x2 : Int32) (x3 : Int32) (h : pH) : pR := mo_goPartyG px_n10 262 [.inr (.inl 51), .inl x1, .inl x2, .inl x3] h
theorem mo_goPartyT_ok {d : Nat} {x1 : Int32} {x2 : Int32} {x3 : Int32} {h : pH} {q : Int32 × pH} (e : mo_goPartyT x1 x2 x3 h = some q) : px_Con (d + 11) 262 [.inr (.inl 51), .inl x1, .inl x2, .inl x3] h q := by
  have h9 := mo_goPartyG_ok (d := d) px_n10 262 _ h q e
  rw [px_n10_eq] at h9
  exact h9
/-! WordsUnsaidModel.party(I)I -/
noncomputable def mo_party_50 (h : pH) : pR :=
  some (px_c (-1), h)
noncomputable def mo_party_204 (r178 : Int32 → Int32 → pH → pR) (x1 : Int32) (x3 : Int32) (h : pH) : pR :=
  r178 x1 (x3 + px_c 1) h
noncomputable def mo_party_178 : Nat → Int32 → Int32 → pH → pR
  | 0, _, _, _ => none
  | n + 1, x1, x3, h =>
    if (h 51 4) ≤ x3 then
      some (h 51 56, h)
    else
      px_bind (mo_has x1 x3 h) fun z1 h2 =>
      if z1 = 0 then
        mo_party_204 (mo_party_178 n) x1 x3 h2
      else
        px_if (px_ok 0 76 x3) <|
        px_bind (mo_tell (h2 76 x3.toNatClampNeg) h2) fun _ h4 =>
        mo_party_204 (mo_party_178 n) x1 x3 h4
noncomputable def mo_party_151 (x1 : Int32) (h : pH) : pR :=
  px_bind (mo_goPartyT x1 (px_c 0) x1 h) fun _ h2 =>
  if (h2 51 56) = (px_k 1000000) then
    some (px_c (-2), h2)
  else
    let h3 := px_w h2 51 13 (px_c 0)
    mo_party_178 px_F x1 (px_c 0) h3
noncomputable def mo_party_131 (r54 : Int32 → Int32 → Int32 → pH → pR) (r65 : Int32 → Int32 → Int32 → Int32 → pH → pR) (x1 : Int32) (x2 : Int32) (x3 : Int32) (x4 : Int32) (s0 : Int32) (s1 : Int32) (h : pH) : pR :=
  px_if (px_ok 3 77 s1) <|
  let h1 := px_w h 77 s1.toNatClampNeg (px_nz s0)
  r65 x1 x2 x3 (x4 + px_c 1) h1
noncomputable def mo_party_130 (r54 : Int32 → Int32 → Int32 → pH → pR) (r65 : Int32 → Int32 → Int32 → Int32 → pH → pR) (x1 : Int32) (x2 : Int32) (x3 : Int32) (x4 : Int32) (s0 : Int32) (h : pH) : pR :=
  mo_party_131 r54 r65 x1 x2 x3 x4 (px_c 0) s0 h
noncomputable def mo_party_65 (r54 : Int32 → Int32 → Int32 → pH → pR) : Nat → Int32 → Int32 → Int32 → Int32 → pH → pR
  | 0, _, _, _, _, _ => none
  | n + 1, x1, x2, x3, x4, h =>
    if (h 51 4) ≤ x4 then
      r54 x1 x2 (x3 + px_c 1) h
    else
      px_bind (mo_has x1 x3 h) fun z1 h2 =>
      if z1 = 0 then
        mo_party_130 r54 (mo_party_65 r54 n) x1 x2 x3 x4 (((px_c 6) * x3) + x4) h2
      else
        px_bind (mo_has x1 x4 h2) fun z3 h4 =>
        if z3 = 0 then
          mo_party_130 r54 (mo_party_65 r54 n) x1 x2 x3 x4 (((px_c 6) * x3) + x4) h4
        else
          px_bind (mo_leastRow 52 (((px_c 1) <<< (x3 &&& 31)) ||| ((px_c 1) <<< (x4 &&& 31))) x2 ((px_c 1) - x2) (px_c 3) h4) fun z5 h6 =>
          if z5 ≤ 0 then
            mo_party_130 r54 (mo_party_65 r54 n) x1 x2 x3 x4 (((px_c 6) * x3) + x4) h6
          else
            mo_party_131 r54 (mo_party_65 r54 n) x1 x2 x3 x4 (px_c 1) (((px_c 6) * x3) + x4) h6
noncomputable def mo_party_54 : Nat → Int32 → Int32 → Int32 → pH → pR
  | 0, _, _, _, _ => none
  | n + 1, x1, x2, x3, h =>
    if (h 51 4) ≤ x3 then
      let h1 := px_w h 51 56 (px_k 1000000)
      mo_party_151 x1 h1
    else
      mo_party_65 (mo_party_54 n) px_F x1 x2 x3 x3 h
noncomputable def mo_party (x1 : Int32) (h : pH) : pR :=
  let h1 := px_w h 51 14 (px_c 0)
  px_bind (mo_in x1 (px_c 1) (((px_c 1) <<< ((h1 51 4) &&& 31)) - (px_c 1)) h1) fun z2 h3 =>
  if z2 = 0 then
    some (px_c (-1), h3)
  else
    px_bind (jn_numberOfTrailingZeros x1 h3) fun z4 h5 =>
    px_if (px_ok 0 52 z4) <|
    let y2_6 := h5 52 z4.toNatClampNeg
    if (px_c 1) < y2_6 then
      mo_party_50 h5
    else
      px_bind (mo_peopleAt y2_6 h5) fun z7 h8 =>
      if (x1 &&& (z7 ^^^ (px_c (-1)))) = 0 then
        mo_party_54 px_F x1 y2_6 (px_c 0) h8
      else
        mo_party_50 h8
def mo_party_code : pCode := [(0, .aload_n 0, 1), (1, .iconst 0, 1), (2, .putfield 106, 3), (5, .iload_n 1, 1), (6, .iconst 1, 1), (7, .iconst 1, 1), (8, .aload_n 0, 1), (9, .getfield 112, 3), (12, .ishl, 1), (13, .iconst 1, 1), (14, .isub, 1), (15, .invokestatic 115, 3), (18, .ifCond .ne (5), 3), (21, .iconst (-1), 1), (22, .ireturn, 1), (23, .aload_n 0, 1), (24, .getfield 9, 3), (27, .iload_n 1, 1), (28, .invokestatic 395, 3), (31, .iaload, 1), (32, .istore_n 2, 1), (33, .iload_n 2, 1), (34, .iconst 1, 1), (35, .if_icmp .gt (15), 3), (38, .iload_n 1, 1), (39, .aload_n 0, 1), (40, .iload_n 2, 1), (41, .invokevirtual 334, 3), (44, .iconst (-1), 1), (45, .ixor, 1), (46, .iand, 1), (47, .ifCond .eq (5), 3), (50, .iconst (-1), 1), (51, .ireturn, 1), (52, .iconst 0, 1), (53, .istore_n 3, 1), (54, .iload_n 3, 1), (55, .aload_n 0, 1), (56, .getfield 112, 3), (59, .if_icmp .ge (85), 3), (62, .iload_n 3, 1), (63, .istore 4, 2), (65, .iload 4, 2), (67, .aload_n 0, 1), (68, .getfield 112, 3), (71, .if_icmp .ge (67), 3), (74, .aload_n 0, 1), (75, .getfield 90, 3), (78, .bipush (6), 2), (80, .iload_n 3, 1), (81, .imul, 1), (82, .iload 4, 2), (84, .iadd, 1), (85, .iload_n 1, 1), (86, .iload_n 3, 1), (87, .invokestatic 227, 3), (90, .ifCond .eq (40), 3), (93, .iload_n 1, 1), (94, .iload 4, 2), (96, .invokestatic 227, 3), (99, .ifCond .eq (31), 3), (102, .aload_n 0, 1), (103, .aload_n 0, 1), (104, .getfield 9, 3), (107, .iconst 1, 1), (108, .iload_n 3, 1), (109, .ishl, 1), (110, .iconst 1, 1), (111, .iload 4, 2), (113, .ishl, 1), (114, .ior, 1), (115, .iload_n 2, 1), (116, .iconst 1, 1), (117, .iload_n 2, 1), (118, .isub, 1), (119, .iconst 3, 1), (120, .invokevirtual 417, 3), (123, .ifCond .le (7), 3), (126, .iconst 1, 1), (127, .goto (4), 3), (130, .iconst 0, 1), (131, .bastore, 1), (132, .iinc 4 (1), 3), (135, .goto (-70), 3), (138, .iinc 3 (1), 3), (141, .goto (-87), 3), (144, .aload_n 0, 1), (145, .ldc_w 291, 3), (148, .putfield 436, 3), (151, .aload_n 0, 1), (152, .iload_n 1, 1), (153, .iconst 0, 1), (154, .iload_n 1, 1), (155, .invokevirtual 439, 3), (158, .aload_n 0, 1), (159, .getfield 436, 3), (162, .ldc_w 291, 3), (165, .if_icmp .ne (6), 3), (168, .bipush (-2), 2), (170, .ireturn, 1), (171, .aload_n 0, 1), (172, .iconst 0, 1), (173, .putfield 109, 3), (176, .iconst 0, 1), (177, .istore_n 3, 1), (178, .iload_n 3, 1), (179, .aload_n 0, 1), (180, .getfield 112, 3), (183, .if_icmp .ge (27), 3), (186, .iload_n 1, 1), (187, .iload_n 3, 1), (188, .invokestatic 227, 3), (191, .ifCond .eq (13), 3), (194, .aload_n 0, 1), (195, .aload_n 0, 1), (196, .getfield 87, 3), (199, .iload_n 3, 1), (200, .iaload, 1), (201, .invokevirtual 312, 3), (204, .iinc 3 (1), 3), (207, .goto (-29), 3), (210, .aload_n 0, 1), (211, .getfield 436, 3), (214, .ireturn, 1)]
set_option maxRecDepth 200000 in
theorem mo_party_code_ok : px_code prog_13_method_91_code mo_party_code = true := by decide +kernel
noncomputable def mo_party_orc : pC := px_orc [(176, fun a h => match a with
    | [.inl v0, .inl v1] => mo_has v0 v1 h
    | _ => none), (178, fun a h => match a with
    | [.inr (.inl 51), .inl v1] => mo_tell v1 h
    | _ => none), (262, fun a h => match a with
    | [.inr (.inl 51), .inl v1, .inl v2, .inl v3] => mo_goPartyT v1 v2 v3 h
    | _ => none), (253, fun a h => match a with
    | [.inr (.inl 51), .inr (.inl v1), .inl v2, .inl v3, .inl v4, .inl v5] => mo_leastRow v1 v2 v3 v4 v5 h
    | _ => none), (175, fun a h => match a with
    | [.inl v0, .inl v1, .inl v2] => mo_in v0 v1 v2 h
    | _ => none), (280, fun a h => match a with
    | [.inl v0] => jn_numberOfTrailingZeros v0 h
    | _ => none), (207, fun a h => match a with
    | [.inr (.inl 51), .inl v1] => mo_peopleAt v1 h
    | _ => none)]
theorem mo_party_orc_ok {d : Nat} : px_Or (d + 119) (mo_party_orc) := px_orc_ok (by
  refine px_o1 (fun a h q e => by
    dsimp only at e
    split at e
    · exact mo_has_ok (d := d + 118) e
    · cases e) ?_
  refine px_o1 (fun a h q e => by
    dsimp only at e
    split at e
    · exact mo_tell_ok (d := d + 118) e
    · cases e) ?_
  refine px_o1 (fun a h q e => by
    dsimp only at e
    split at e
    · exact mo_goPartyT_ok (d := d + 108) e
    · cases e) ?_
  refine px_o1 (fun a h q e => by
    dsimp only at e
    split at e
    · exact mo_leastRow_ok (d := d + 0) e
    · cases e) ?_
  refine px_o1 (fun a h q e => by
    dsimp only at e
    split at e
    · exact mo_in_ok (d := d + 118) e
    · cases e) ?_
  refine px_o1 (fun a h q e => by
    dsimp only at e
    split at e
    · exact jn_numberOfTrailingZeros_ok (d := d + 118) e
    · cases e) ?_
  refine px_o1 (fun a h q e => by
    dsimp only at e
    split at e
    · exact mo_peopleAt_ok (d := d + 118) e
    · cases e) ?_
  exact px_o0)
set_option maxRecDepth 200000 in
theorem mo_party_50_ok {d : Nat} : ∀ (h : pH) (q : Int32 × pH), mo_party_50 h = some q → px_G (d + 119 + 1) (pX_RX11, prog_13_method_91_code, 5, (some .int)) 50 [none, none, none, none, none] [] h q := by
  intro h q e
  exact px_blk_ok (d := d + 119) (M := (pX_RX11, prog_13_method_91_code, 5, (some .int))) (C := mo_party_orc) (code := mo_party_code) (ld := []) (kl := []) (mo_party_orc_ok) pX_ok_RX11 mo_party_code_ok (px_k0) 129 50 _ _ h q e
set_option maxRecDepth 200000 in
theorem mo_party_204_ok {d : Nat} {r178 : Int32 → Int32 → pH → pR} (hr178 : ∀ (x1 : Int32) (x3 : Int32) (h : pH) (q : Int32 × pH), r178 x1 x3 h = some q → px_G (d + 119 + 1) (pX_RX11, prog_13_method_91_code, 5, (some .int)) 178 [some (.inr (.inl 51)), some (.inl x1), none, some (.inl x3), none] [] h q) : ∀ (x1 : Int32) (x3 : Int32) (h : pH) (q : Int32 × pH), mo_party_204 r178 x1 x3 h = some q → px_G (d + 119 + 1) (pX_RX11, prog_13_method_91_code, 5, (some .int)) 204 [some (.inr (.inl 51)), some (.inl x1), none, some (.inl x3), none] [] h q := by
  intro x1 x3 h q e
  exact px_blk_ok (d := d + 119) (M := (pX_RX11, prog_13_method_91_code, 5, (some .int))) (C := mo_party_orc) (code := mo_party_code) (ld := [178]) (kl := [(178, fun ls st h => px_if (px_fit [61, 1, 0, 1, 0] ls && px_fits [] st) (r178 (px_gi ls 1) (px_gi ls 3) h))]) (mo_party_orc_ok) pX_ok_RX11 mo_party_code_ok (px_k1 (px_ko (ts := [61, 1, 0, 1, 0]) (ss := []) fun ls st h q e => hr178 _ _ _ _ e) px_k0) 129 204 _ _ h q e
set_option maxRecDepth 200000 in
theorem mo_party_178_ok {d : Nat} : ∀ (n : Nat) (x1 : Int32) (x3 : Int32) (h : pH) (q : Int32 × pH), mo_party_178 n x1 x3 h = some q → px_G (d + 119 + 1) (pX_RX11, prog_13_method_91_code, 5, (some .int)) 178 [some (.inr (.inl 51)), some (.inl x1), none, some (.inl x3), none] [] h q := by
  intro n
  induction n with
  | zero =>
    intro x1 x3 h q e
    cases e
  | succ n ih =>
    intro x1 x3 h q e
    exact px_blk_ok (d := d + 119) (M := (pX_RX11, prog_13_method_91_code, 5, (some .int))) (C := mo_party_orc) (code := mo_party_code) (ld := [204]) (kl := [(204, fun ls st h => px_if (px_fit [61, 1, 0, 1, 0] ls && px_fits [] st) (mo_party_204 (mo_party_178 n) (px_gi ls 1) (px_gi ls 3) h))]) (mo_party_orc_ok) pX_ok_RX11 mo_party_code_ok (px_k1 (px_ko (ts := [61, 1, 0, 1, 0]) (ss := []) fun ls st h q e => mo_party_204_ok ih _ _ _ _ e) px_k0) 129 178 _ _ h q e
set_option maxRecDepth 200000 in
theorem mo_party_151_ok {d : Nat} : ∀ (x1 : Int32) (h : pH) (q : Int32 × pH), mo_party_151 x1 h = some q → px_G (d + 119 + 1) (pX_RX11, prog_13_method_91_code, 5, (some .int)) 151 [some (.inr (.inl 51)), some (.inl x1), none, none, none] [] h q := by
  intro x1 h q e
  exact px_blk_ok (d := d + 119) (M := (pX_RX11, prog_13_method_91_code, 5, (some .int))) (C := mo_party_orc) (code := mo_party_code) (ld := [178]) (kl := [(178, fun ls st h => px_if (px_fit [61, 1, 0, 1, 0] ls && px_fits [] st) (mo_party_178 px_F (px_gi ls 1) (px_gi ls 3) h))]) (mo_party_orc_ok) pX_ok_RX11 mo_party_code_ok (px_k1 (px_ko (ts := [61, 1, 0, 1, 0]) (ss := []) fun ls st h q e => mo_party_178_ok _ _ _ _ _ e) px_k0) 129 151 _ _ h q e
set_option maxRecDepth 200000 in
theorem mo_party_131_ok {d : Nat} {r54 : Int32 → Int32 → Int32 → pH → pR} (hr54 : ∀ (x1 : Int32) (x2 : Int32) (x3 : Int32) (h : pH) (q : Int32 × pH), r54 x1 x2 x3 h = some q → px_G (d + 119 + 1) (pX_RX11, prog_13_method_91_code, 5, (some .int)) 54 [some (.inr (.inl 51)), some (.inl x1), some (.inl x2), some (.inl x3), none] [] h q) {r65 : Int32 → Int32 → Int32 → Int32 → pH → pR} (hr65 : ∀ (x1 : Int32) (x2 : Int32) (x3 : Int32) (x4 : Int32) (h : pH) (q : Int32 × pH), r65 x1 x2 x3 x4 h = some q → px_G (d + 119 + 1) (pX_RX11, prog_13_method_91_code, 5, (some .int)) 65 [some (.inr (.inl 51)), some (.inl x1), some (.inl x2), some (.inl x3), some (.inl x4)] [] h q) : ∀ (x1 : Int32) (x2 : Int32) (x3 : Int32) (x4 : Int32) (s0 : Int32) (s1 : Int32) (h : pH) (q : Int32 × pH), mo_party_131 r54 r65 x1 x2 x3 x4 s0 s1 h = some q → px_G (d + 119 + 1) (pX_RX11, prog_13_method_91_code, 5, (some .int)) 131 [some (.inr (.inl 51)), some (.inl x1), some (.inl x2), some (.inl x3), some (.inl x4)] [.inl s0, .inl s1, .inr (.inl 77)] h q := by
  intro x1 x2 x3 x4 s0 s1 h q e
  exact px_blk_ok (d := d + 119) (M := (pX_RX11, prog_13_method_91_code, 5, (some .int))) (C := mo_party_orc) (code := mo_party_code) (ld := [65]) (kl := [(65, fun ls st h => px_if (px_fit [61, 1, 1, 1, 1] ls && px_fits [] st) (r65 (px_gi ls 1) (px_gi ls 2) (px_gi ls 3) (px_gi ls 4) h))]) (mo_party_orc_ok) pX_ok_RX11 mo_party_code_ok (px_k1 (px_ko (ts := [61, 1, 1, 1, 1]) (ss := []) fun ls st h q e => hr65 _ _ _ _ _ _ e) px_k0) 129 131 _ _ h q e
set_option maxRecDepth 200000 in
theorem mo_party_130_ok {d : Nat} {r54 : Int32 → Int32 → Int32 → pH → pR} (hr54 : ∀ (x1 : Int32) (x2 : Int32) (x3 : Int32) (h : pH) (q : Int32 × pH), r54 x1 x2 x3 h = some q → px_G (d + 119 + 1) (pX_RX11, prog_13_method_91_code, 5, (some .int)) 54 [some (.inr (.inl 51)), some (.inl x1), some (.inl x2), some (.inl x3), none] [] h q) {r65 : Int32 → Int32 → Int32 → Int32 → pH → pR} (hr65 : ∀ (x1 : Int32) (x2 : Int32) (x3 : Int32) (x4 : Int32) (h : pH) (q : Int32 × pH), r65 x1 x2 x3 x4 h = some q → px_G (d + 119 + 1) (pX_RX11, prog_13_method_91_code, 5, (some .int)) 65 [some (.inr (.inl 51)), some (.inl x1), some (.inl x2), some (.inl x3), some (.inl x4)] [] h q) : ∀ (x1 : Int32) (x2 : Int32) (x3 : Int32) (x4 : Int32) (s0 : Int32) (h : pH) (q : Int32 × pH), mo_party_130 r54 r65 x1 x2 x3 x4 s0 h = some q → px_G (d + 119 + 1) (pX_RX11, prog_13_method_91_code, 5, (some .int)) 130 [some (.inr (.inl 51)), some (.inl x1), some (.inl x2), some (.inl x3), some (.inl x4)] [.inl s0, .inr (.inl 77)] h q := by
  intro x1 x2 x3 x4 s0 h q e
  exact px_blk_ok (d := d + 119) (M := (pX_RX11, prog_13_method_91_code, 5, (some .int))) (C := mo_party_orc) (code := mo_party_code) (ld := [131]) (kl := [(131, fun ls st h => px_if (px_fit [61, 1, 1, 1, 1] ls && px_fits [1, 1, 87] st) (mo_party_131 r54 r65 (px_gi ls 1) (px_gi ls 2) (px_gi ls 3) (px_gi ls 4) (px_si st 0) (px_si st 1) h))]) (mo_party_orc_ok) pX_ok_RX11 mo_party_code_ok (px_k1 (px_ko (ts := [61, 1, 1, 1, 1]) (ss := [1, 1, 87]) fun ls st h q e => mo_party_131_ok hr54 hr65 _ _ _ _ _ _ _ _ e) px_k0) 129 130 _ _ h q e
set_option maxRecDepth 200000 in
theorem mo_party_65_ok {d : Nat} {r54 : Int32 → Int32 → Int32 → pH → pR} (hr54 : ∀ (x1 : Int32) (x2 : Int32) (x3 : Int32) (h : pH) (q : Int32 × pH), r54 x1 x2 x3 h = some q → px_G (d + 119 + 1) (pX_RX11, prog_13_method_91_code, 5, (some .int)) 54 [some (.inr (.inl 51)), some (.inl x1), some (.inl x2), some (.inl x3), none] [] h q) : ∀ (n : Nat) (x1 : Int32) (x2 : Int32) (x3 : Int32) (x4 : Int32) (h : pH) (q : Int32 × pH), mo_party_65 r54 n x1 x2 x3 x4 h = some q → px_G (d + 119 + 1) (pX_RX11, prog_13_method_91_code, 5, (some .int)) 65 [some (.inr (.inl 51)), some (.inl x1), some (.inl x2), some (.inl x3), some (.inl x4)] [] h q := by
  intro n
  induction n with
  | zero =>
    intro x1 x2 x3 x4 h q e
    cases e
  | succ n ih =>
    intro x1 x2 x3 x4 h q e
    exact px_blk_ok (d := d + 119) (M := (pX_RX11, prog_13_method_91_code, 5, (some .int))) (C := mo_party_orc) (code := mo_party_code) (ld := [54, 130, 131]) (kl := [(54, fun ls st h => px_if (px_fit [61, 1, 1, 1, 0] ls && px_fits [] st) (r54 (px_gi ls 1) (px_gi ls 2) (px_gi ls 3) h)), (130, fun ls st h => px_if (px_fit [61, 1, 1, 1, 1] ls && px_fits [1, 87] st) (mo_party_130 r54 (mo_party_65 r54 n) (px_gi ls 1) (px_gi ls 2) (px_gi ls 3) (px_gi ls 4) (px_si st 0) h)), (131, fun ls st h => px_if (px_fit [61, 1, 1, 1, 1] ls && px_fits [1, 1, 87] st) (mo_party_131 r54 (mo_party_65 r54 n) (px_gi ls 1) (px_gi ls 2) (px_gi ls 3) (px_gi ls 4) (px_si st 0) (px_si st 1) h))]) (mo_party_orc_ok) pX_ok_RX11 mo_party_code_ok (px_k1 (px_ko (ts := [61, 1, 1, 1, 0]) (ss := []) fun ls st h q e => hr54 _ _ _ _ _ e) (px_k1 (px_ko (ts := [61, 1, 1, 1, 1]) (ss := [1, 87]) fun ls st h q e => mo_party_130_ok hr54 ih _ _ _ _ _ _ _ e) (px_k1 (px_ko (ts := [61, 1, 1, 1, 1]) (ss := [1, 1, 87]) fun ls st h q e => mo_party_131_ok hr54 ih _ _ _ _ _ _ _ _ e) px_k0))) 129 65 _ _ h q e
set_option maxRecDepth 200000 in
theorem mo_party_54_ok {d : Nat} : ∀ (n : Nat) (x1 : Int32) (x2 : Int32) (x3 : Int32) (h : pH) (q : Int32 × pH), mo_party_54 n x1 x2 x3 h = some q → px_G (d + 119 + 1) (pX_RX11, prog_13_method_91_code, 5, (some .int)) 54 [some (.inr (.inl 51)), some (.inl x1), some (.inl x2), some (.inl x3), none] [] h q := by
  intro n
  induction n with
  | zero =>
    intro x1 x2 x3 h q e
    cases e
  | succ n ih =>
    intro x1 x2 x3 h q e
    exact px_blk_ok (d := d + 119) (M := (pX_RX11, prog_13_method_91_code, 5, (some .int))) (C := mo_party_orc) (code := mo_party_code) (ld := [65, 151]) (kl := [(65, fun ls st h => px_if (px_fit [61, 1, 1, 1, 1] ls && px_fits [] st) (mo_party_65 (mo_party_54 n) px_F (px_gi ls 1) (px_gi ls 2) (px_gi ls 3) (px_gi ls 4) h)), (151, fun ls st h => px_if (px_fit [61, 1, 0, 0, 0] ls && px_fits [] st) (mo_party_151 (px_gi ls 1) h))]) (mo_party_orc_ok) pX_ok_RX11 mo_party_code_ok (px_k1 (px_ko (ts := [61, 1, 1, 1, 1]) (ss := []) fun ls st h q e => mo_party_65_ok ih _ _ _ _ _ _ _ e) (px_k1 (px_ko (ts := [61, 1, 0, 0, 0]) (ss := []) fun ls st h q e => mo_party_151_ok _ _ _ e) px_k0)) 129 54 _ _ h q e
set_option maxRecDepth 200000 in
theorem mo_party_ok {d : Nat} {x1 : Int32} {h : pH} {q : Int32 × pH} (e : mo_party x1 h = some q) : px_Con (d + 120) 263 [.inr (.inl 51), .inl x1] h q :=
  px_con (X := pX_RX11) (b := prog_13_method_91_code) (nL := 5) (rt := (some .int)) rfl rfl (Nat.le_of_ble_eq_true rfl) rfl (px_blk_ok (d := d + 119) (M := (pX_RX11, prog_13_method_91_code, 5, (some .int))) (C := mo_party_orc) (code := mo_party_code) (ld := [54, 50]) (kl := [(54, fun ls st h => px_if (px_fit [61, 1, 1, 1, 0] ls && px_fits [] st) (mo_party_54 px_F (px_gi ls 1) (px_gi ls 2) (px_gi ls 3) h)), (50, fun ls st h => px_if (px_fit [0, 0, 0, 0, 0] ls && px_fits [] st) (mo_party_50 h))]) (mo_party_orc_ok) pX_ok_RX11 mo_party_code_ok (px_k1 (px_ko (ts := [61, 1, 1, 1, 0]) (ss := []) fun ls st h q e => mo_party_54_ok _ _ _ _ _ _ e) (px_k1 (px_ko (ts := [0, 0, 0, 0, 0]) (ss := []) fun ls st h q e => mo_party_50_ok _ _ e) px_k0)) 129 0 _ _ _ q e)
/-! WordsUnsaidModel.pool(II)I -/
noncomputable def mo_pool_166 (x3 : Int32) (s0 : Int32) (h : pH) : pR :=
  px_bind (mo_tell s0 h) fun _ h2 =>
  some (x3, h2)
noncomputable def mo_pool_109 (r27 : Int32 → Int32 → Int32 → Int32 → Int32 → pH → pR) (x1 : Int32) (x2 : Int32) (x3 : Int32) (x4 : Int32) (x5 : Int32) (h : pH) : pR :=
  r27 x1 x2 x3 x4 (x5 + px_c 1) h
noncomputable def mo_pool_27 : Nat → Int32 → Int32 → Int32 → Int32 → Int32 → pH → pR
  | 0, _, _, _, _, _, _ => none
  | n + 1, x1, x2, x3, x4, x5, h =>
    if (h 51 4) ≤ x5 then
      if 0 ≤ x3 then
        px_if (px_ok 0 52 x1) <|
        px_bind (mo_leastRow 52 ((px_c 1) <<< (x1 &&& 31)) (h 52 x1.toNatClampNeg) x2 (px_c 3) h) fun z1 h2 =>
        let h3 := px_w h2 51 13 (px_c 0)
        px_bind (mo_tell x4 h3) fun _ h5 =>
        if z1 = 0 then
          mo_pool_166 x3 (px_c (-1)) h5
        else
          mo_pool_166 x3 z1 h5
      else
        some (px_c (-2), h)
    else
      if x5 = x1 then
        mo_pool_109 (mo_pool_27 n) x1 x2 x3 x4 x5 h
      else
        px_if (px_ok 0 52 x5) <|
        px_if (px_ok 0 52 x1) <|
        if (h 52 x5.toNatClampNeg) = (h 52 x1.toNatClampNeg) then
          px_if (px_ok 0 52 x1) <|
          px_bind (mo_leastRow 52 (((px_c 1) <<< (x1 &&& 31)) ||| ((px_c 1) <<< (x5 &&& 31))) (h 52 x1.toNatClampNeg) x2 (px_c 3) h) fun z6 h7 =>
          if z6 = 0 then
            mo_pool_109 (mo_pool_27 n) x1 x2 x3 x4 x5 h7
          else
            if z6 < x4 then
              mo_pool_109 (mo_pool_27 n) x1 x2 x5 z6 x5 h7
            else
              mo_pool_109 (mo_pool_27 n) x1 x2 x3 x4 x5 h7
        else
          mo_pool_109 (mo_pool_27 n) x1 x2 x3 x4 x5 h
noncomputable def mo_pool (x1 : Int32) (x2 : Int32) (h : pH) : pR :=
  let h1 := px_w h 51 14 (px_c 0)
  px_bind (mo_canGo x1 x2 h1) fun z2 h3 =>
  if z2 = 0 then
    some (px_c (-1), h3)
  else
    let y4_4 := px_k 1000000
    mo_pool_27 px_F x1 x2 (px_c (-2)) y4_4 (px_c 0) h3
def mo_pool_code : pCode := [(0, .aload_n 0, 1), (1, .iconst 0, 1), (2, .putfield 106, 3), (5, .aload_n 0, 1), (6, .iload_n 1, 1), (7, .iload_n 2, 1), (8, .invokevirtual 414, 3), (11, .ifCond .ne (5), 3), (14, .iconst (-1), 1), (15, .ireturn, 1), (16, .bipush (-2), 2), (18, .istore_n 3, 1), (19, .ldc_w 291, 3), (22, .istore 4, 2), (24, .iconst 0, 1), (25, .istore 5, 2), (27, .iload 5, 2), (29, .aload_n 0, 1), (30, .getfield 112, 3), (33, .if_icmp .ge (82), 3), (36, .iload 5, 2), (38, .iload_n 1, 1), (39, .if_icmp .eq (70), 3), (42, .aload_n 0, 1), (43, .getfield 9, 3), (46, .iload 5, 2), (48, .iaload, 1), (49, .aload_n 0, 1), (50, .getfield 9, 3), (53, .iload_n 1, 1), (54, .iaload, 1), (55, .if_icmp .eq (6), 3), (58, .goto (51), 3), (61, .aload_n 0, 1), (62, .aload_n 0, 1), (63, .getfield 9, 3), (66, .iconst 1, 1), (67, .iload_n 1, 1), (68, .ishl, 1), (69, .iconst 1, 1), (70, .iload 5, 2), (72, .ishl, 1), (73, .ior, 1), (74, .aload_n 0, 1), (75, .getfield 9, 3), (78, .iload_n 1, 1), (79, .iaload, 1), (80, .iload_n 2, 1), (81, .iconst 3, 1), (82, .invokevirtual 417, 3), (85, .istore 6, 2), (87, .iload 6, 2), (89, .ifCond .eq (20), 3), (92, .iload 6, 2), (94, .iload 4, 2), (96, .if_icmp .lt (6), 3), (99, .goto (10), 3), (102, .iload 5, 2), (104, .istore_n 3, 1), (105, .iload 6, 2), (107, .istore 4, 2), (109, .iinc 5 (1), 3), (112, .goto (-85), 3), (115, .iload_n 3, 1), (116, .ifCond .ge (6), 3), (119, .bipush (-2), 2), (121, .ireturn, 1), (122, .aload_n 0, 1), (123, .aload_n 0, 1), (124, .getfield 9, 3), (127, .iconst 1, 1), (128, .iload_n 1, 1), (129, .ishl, 1), (130, .aload_n 0, 1), (131, .getfield 9, 3), (134, .iload_n 1, 1), (135, .iaload, 1), (136, .iload_n 2, 1), (137, .iconst 3, 1), (138, .invokevirtual 417, 3), (141, .istore 5, 2), (143, .aload_n 0, 1), (144, .iconst 0, 1), (145, .putfield 109, 3), (148, .aload_n 0, 1), (149, .iload 4, 2), (151, .invokevirtual 312, 3), (154, .aload_n 0, 1), (155, .iload 5, 2), (157, .ifCond .ne (7), 3), (160, .iconst (-1), 1), (161, .goto (5), 3), (164, .iload 5, 2), (166, .invokevirtual 312, 3), (169, .iload_n 3, 1), (170, .ireturn, 1)]
set_option maxRecDepth 200000 in
theorem mo_pool_code_ok : px_code prog_13_method_92_code mo_pool_code = true := by decide +kernel
noncomputable def mo_pool_orc : pC := px_orc [(178, fun a h => match a with
    | [.inr (.inl 51), .inl v1] => mo_tell v1 h
    | _ => none), (253, fun a h => match a with
    | [.inr (.inl 51), .inr (.inl v1), .inl v2, .inl v3, .inl v4, .inl v5] => mo_leastRow v1 v2 v3 v4 v5 h
    | _ => none), (254, fun a h => match a with
    | [.inr (.inl 51), .inl v1, .inl v2] => mo_canGo v1 v2 h
    | _ => none)]
theorem mo_pool_orc_ok {d : Nat} : px_Or (d + 119) (mo_pool_orc) := px_orc_ok (by
  refine px_o1 (fun a h q e => by
    dsimp only at e
    split at e
    · exact mo_tell_ok (d := d + 118) e
    · cases e) ?_
  refine px_o1 (fun a h q e => by
    dsimp only at e
    split at e
    · exact mo_leastRow_ok (d := d + 0) e
    · cases e) ?_
  refine px_o1 (fun a h q e => by
    dsimp only at e
    split at e
    · exact mo_canGo_ok (d := d + 116) e
    · cases e) ?_
  exact px_o0)
set_option maxRecDepth 200000 in
theorem mo_pool_166_ok {d : Nat} : ∀ (x3 : Int32) (s0 : Int32) (h : pH) (q : Int32 × pH), mo_pool_166 x3 s0 h = some q → px_G (d + 119 + 1) (pX_RX11, prog_13_method_92_code, 7, (some .int)) 166 [none, none, none, some (.inl x3), none, none, none] [.inl s0, .inr (.inl 51)] h q := by
  intro x3 s0 h q e
  exact px_blk_ok (d := d + 119) (M := (pX_RX11, prog_13_method_92_code, 7, (some .int))) (C := mo_pool_orc) (code := mo_pool_code) (ld := []) (kl := []) (mo_pool_orc_ok) pX_ok_RX11 mo_pool_code_ok (px_k0) 101 166 _ _ h q e
set_option maxRecDepth 200000 in
theorem mo_pool_109_ok {d : Nat} {r27 : Int32 → Int32 → Int32 → Int32 → Int32 → pH → pR} (hr27 : ∀ (x1 : Int32) (x2 : Int32) (x3 : Int32) (x4 : Int32) (x5 : Int32) (h : pH) (q : Int32 × pH), r27 x1 x2 x3 x4 x5 h = some q → px_G (d + 119 + 1) (pX_RX11, prog_13_method_92_code, 7, (some .int)) 27 [some (.inr (.inl 51)), some (.inl x1), some (.inl x2), some (.inl x3), some (.inl x4), some (.inl x5), none] [] h q) : ∀ (x1 : Int32) (x2 : Int32) (x3 : Int32) (x4 : Int32) (x5 : Int32) (h : pH) (q : Int32 × pH), mo_pool_109 r27 x1 x2 x3 x4 x5 h = some q → px_G (d + 119 + 1) (pX_RX11, prog_13_method_92_code, 7, (some .int)) 109 [some (.inr (.inl 51)), some (.inl x1), some (.inl x2), some (.inl x3), some (.inl x4), some (.inl x5), none] [] h q := by
  intro x1 x2 x3 x4 x5 h q e
  exact px_blk_ok (d := d + 119) (M := (pX_RX11, prog_13_method_92_code, 7, (some .int))) (C := mo_pool_orc) (code := mo_pool_code) (ld := [27]) (kl := [(27, fun ls st h => px_if (px_fit [61, 1, 1, 1, 1, 1, 0] ls && px_fits [] st) (r27 (px_gi ls 1) (px_gi ls 2) (px_gi ls 3) (px_gi ls 4) (px_gi ls 5) h))]) (mo_pool_orc_ok) pX_ok_RX11 mo_pool_code_ok (px_k1 (px_ko (ts := [61, 1, 1, 1, 1, 1, 0]) (ss := []) fun ls st h q e => hr27 _ _ _ _ _ _ _ e) px_k0) 101 109 _ _ h q e
set_option maxRecDepth 200000 in
theorem mo_pool_27_ok {d : Nat} : ∀ (n : Nat) (x1 : Int32) (x2 : Int32) (x3 : Int32) (x4 : Int32) (x5 : Int32) (h : pH) (q : Int32 × pH), mo_pool_27 n x1 x2 x3 x4 x5 h = some q → px_G (d + 119 + 1) (pX_RX11, prog_13_method_92_code, 7, (some .int)) 27 [some (.inr (.inl 51)), some (.inl x1), some (.inl x2), some (.inl x3), some (.inl x4), some (.inl x5), none] [] h q := by
  intro n
  induction n with
  | zero =>
    intro x1 x2 x3 x4 x5 h q e
    cases e
  | succ n ih =>
    intro x1 x2 x3 x4 x5 h q e
    exact px_blk_ok (d := d + 119) (M := (pX_RX11, prog_13_method_92_code, 7, (some .int))) (C := mo_pool_orc) (code := mo_pool_code) (ld := [109, 166]) (kl := [(109, fun ls st h => px_if (px_fit [61, 1, 1, 1, 1, 1, 0] ls && px_fits [] st) (mo_pool_109 (mo_pool_27 n) (px_gi ls 1) (px_gi ls 2) (px_gi ls 3) (px_gi ls 4) (px_gi ls 5) h)), (166, fun ls st h => px_if (px_fit [0, 0, 0, 1, 0, 0, 0] ls && px_fits [1, 61] st) (mo_pool_166 (px_gi ls 3) (px_si st 0) h))]) (mo_pool_orc_ok) pX_ok_RX11 mo_pool_code_ok (px_k1 (px_ko (ts := [61, 1, 1, 1, 1, 1, 0]) (ss := []) fun ls st h q e => mo_pool_109_ok ih _ _ _ _ _ _ _ e) (px_k1 (px_ko (ts := [0, 0, 0, 1, 0, 0, 0]) (ss := [1, 61]) fun ls st h q e => mo_pool_166_ok _ _ _ _ e) px_k0)) 101 27 _ _ h q e
set_option maxRecDepth 200000 in
theorem mo_pool_ok {d : Nat} {x1 : Int32} {x2 : Int32} {h : pH} {q : Int32 × pH} (e : mo_pool x1 x2 h = some q) : px_Con (d + 120) 264 [.inr (.inl 51), .inl x1, .inl x2] h q :=
  px_con (X := pX_RX11) (b := prog_13_method_92_code) (nL := 7) (rt := (some .int)) rfl rfl (Nat.le_of_ble_eq_true rfl) rfl (px_blk_ok (d := d + 119) (M := (pX_RX11, prog_13_method_92_code, 7, (some .int))) (C := mo_pool_orc) (code := mo_pool_code) (ld := [27]) (kl := [(27, fun ls st h => px_if (px_fit [61, 1, 1, 1, 1, 1, 0] ls && px_fits [] st) (mo_pool_27 px_F (px_gi ls 1) (px_gi ls 2) (px_gi ls 3) (px_gi ls 4) (px_gi ls 5) h))]) (mo_pool_orc_ok) pX_ok_RX11 mo_pool_code_ok (px_k1 (px_ko (ts := [61, 1, 1, 1, 1, 1, 0]) (ss := []) fun ls st h q e => mo_pool_27_ok _ _ _ _ _ _ _ _ e) px_k0) 101 0 _ _ _ q e)
/-! WordsUnsaidModel.known(I)I -/
noncomputable def mo_known_95 (r29 : Int32 → Int32 → Int32 → Int32 → pH → pR) (x2 : Int32) (x3 : Int32) (x5 : Int32) (s0 : Int32) (s1 : Int32) (h : pH) : pR :=
  let y4_1 := s1 ||| s0
  r29 x2 x3 y4_1 (x5 + px_c 1) h
noncomputable def mo_known_94 (r29 : Int32 → Int32 → Int32 → Int32 → pH → pR) (x2 : Int32) (x3 : Int32) (x5 : Int32) (s0 : Int32) (h : pH) : pR :=
  mo_known_95 r29 x2 x3 x5 (px_c 0) s0 h
noncomputable def mo_known_62 (r29 : Int32 → Int32 → Int32 → Int32 → pH → pR) (x2 : Int32) (x4 : Int32) (x5 : Int32) (s0 : Int32) (s1 : Int32) (h : pH) : pR :=
  let y3_1 := s1 ||| s0
  if x2 = 0 then
    mo_known_94 r29 x2 y3_1 x5 x4 h
  else
    px_if (px_ok 0 52 ((px_c 42) + x5)) <|
    if (x2 &&& ((h 52 ((px_c 42) + x5).toNatClampNeg) ^^^ (px_c (-1)))) = 0 then
      mo_known_95 r29 x2 y3_1 x5 ((px_c 1) <<< (x5 &&& 31)) x4 h
    else
      mo_known_94 r29 x2 y3_1 x5 x4 h
noncomputable def mo_known_29 : Nat → Int32 → Int32 → Int32 → Int32 → pH → pR
  | 0, _, _, _, _, _ => none
  | n + 1, x2, x3, x4, x5, h =>
    if (h 51 6) ≤ x5 then
      let h1 := px_w h 51 13 (px_c 0)
      px_bind (mo_tell x4 h1) fun _ h3 =>
      some (x3, h3)
    else
      px_if (px_ok 0 52 ((px_c 42) + x5)) <|
      if ((h 52 ((px_c 42) + x5).toNatClampNeg) &&& x2) = 0 then
        mo_known_62 (mo_known_29 n) x2 x4 x5 (px_c 0) x3 h
      else
        mo_known_62 (mo_known_29 n) x2 x4 x5 ((px_c 1) <<< (x5 &&& 31)) x3 h
noncomputable def mo_known (x1 : Int32) (h : pH) : pR :=
  let h1 := px_w h 51 14 (px_c 0)
  px_bind (mo_isPlace x1 h1) fun z2 h3 =>
  if z2 = 0 then
    some (px_c (-1), h3)
  else
    px_bind (mo_peopleAt x1 h3) fun z4 h5 =>
    mo_known_29 px_F z4 (px_c 0) (px_c 0) (px_c 0) h5
def mo_known_code : pCode := [(0, .aload_n 0, 1), (1, .iconst 0, 1), (2, .putfield 106, 3), (5, .aload_n 0, 1), (6, .iload_n 1, 1), (7, .invokevirtual 443, 3), (10, .ifCond .ne (5), 3), (13, .iconst (-1), 1), (14, .ireturn, 1), (15, .aload_n 0, 1), (16, .iload_n 1, 1), (17, .invokevirtual 334, 3), (20, .istore_n 2, 1), (21, .iconst 0, 1), (22, .istore_n 3, 1), (23, .iconst 0, 1), (24, .istore 4, 2), (26, .iconst 0, 1), (27, .istore 5, 2), (29, .iload 5, 2), (31, .aload_n 0, 1), (32, .getfield 119, 3), (35, .if_icmp .ge (69), 3), (38, .iload_n 3, 1), (39, .aload_n 0, 1), (40, .getfield 9, 3), (43, .bipush (42), 2), (45, .iload 5, 2), (47, .iadd, 1), (48, .iaload, 1), (49, .iload_n 2, 1), (50, .iand, 1), (51, .ifCond .eq (10), 3), (54, .iconst 1, 1), (55, .iload 5, 2), (57, .ishl, 1), (58, .goto (4), 3), (61, .iconst 0, 1), (62, .ior, 1), (63, .istore_n 3, 1), (64, .iload 4, 2), (66, .iload_n 2, 1), (67, .ifCond .eq (27), 3), (70, .iload_n 2, 1), (71, .aload_n 0, 1), (72, .getfield 9, 3), (75, .bipush (42), 2), (77, .iload 5, 2), (79, .iadd, 1), (80, .iaload, 1), (81, .iconst (-1), 1), (82, .ixor, 1), (83, .iand, 1), (84, .ifCond .ne (10), 3), (87, .iconst 1, 1), (88, .iload 5, 2), (90, .ishl, 1), (91, .goto (4), 3), (94, .iconst 0, 1), (95, .ior, 1), (96, .istore 4, 2), (98, .iinc 5 (1), 3), (101, .goto (-72), 3), (104, .aload_n 0, 1), (105, .iconst 0, 1), (106, .putfield 109, 3), (109, .aload_n 0, 1), (110, .iload 4, 2), (112, .invokevirtual 312, 3), (115, .iload_n 3, 1), (116, .ireturn, 1)]
set_option maxRecDepth 200000 in
theorem mo_known_code_ok : px_code prog_13_method_93_code mo_known_code = true := by decide +kernel
noncomputable def mo_known_orc : pC := px_orc [(178, fun a h => match a with
    | [.inr (.inl 51), .inl v1] => mo_tell v1 h
    | _ => none), (182, fun a h => match a with
    | [.inr (.inl 51), .inl v1] => mo_isPlace v1 h
    | _ => none), (207, fun a h => match a with
    | [.inr (.inl 51), .inl v1] => mo_peopleAt v1 h
    | _ => none)]
theorem mo_known_orc_ok {d : Nat} : px_Or (d + 2) (mo_known_orc) := px_orc_ok (by
  refine px_o1 (fun a h q e => by
    dsimp only at e
    split at e
    · exact mo_tell_ok (d := d + 1) e
    · cases e) ?_
  refine px_o1 (fun a h q e => by
    dsimp only at e
    split at e
    · exact mo_isPlace_ok (d := d + 0) e
    · cases e) ?_
  refine px_o1 (fun a h q e => by
    dsimp only at e
    split at e
    · exact mo_peopleAt_ok (d := d + 1) e
    · cases e) ?_
  exact px_o0)
set_option maxRecDepth 200000 in
theorem mo_known_95_ok {d : Nat} {r29 : Int32 → Int32 → Int32 → Int32 → pH → pR} (hr29 : ∀ (x2 : Int32) (x3 : Int32) (x4 : Int32) (x5 : Int32) (h : pH) (q : Int32 × pH), r29 x2 x3 x4 x5 h = some q → px_G (d + 2 + 1) (pX_RX11, prog_13_method_93_code, 6, (some .int)) 29 [some (.inr (.inl 51)), none, some (.inl x2), some (.inl x3), some (.inl x4), some (.inl x5)] [] h q) : ∀ (x2 : Int32) (x3 : Int32) (x5 : Int32) (s0 : Int32) (s1 : Int32) (h : pH) (q : Int32 × pH), mo_known_95 r29 x2 x3 x5 s0 s1 h = some q → px_G (d + 2 + 1) (pX_RX11, prog_13_method_93_code, 6, (some .int)) 95 [some (.inr (.inl 51)), none, some (.inl x2), some (.inl x3), none, some (.inl x5)] [.inl s0, .inl s1] h q := by
  intro x2 x3 x5 s0 s1 h q e
  exact px_blk_ok (d := d + 2) (M := (pX_RX11, prog_13_method_93_code, 6, (some .int))) (C := mo_known_orc) (code := mo_known_code) (ld := [29]) (kl := [(29, fun ls st h => px_if (px_fit [61, 0, 1, 1, 1, 1] ls && px_fits [] st) (r29 (px_gi ls 2) (px_gi ls 3) (px_gi ls 4) (px_gi ls 5) h))]) (mo_known_orc_ok) pX_ok_RX11 mo_known_code_ok (px_k1 (px_ko (ts := [61, 0, 1, 1, 1, 1]) (ss := []) fun ls st h q e => hr29 _ _ _ _ _ _ e) px_k0) 76 95 _ _ h q e
set_option maxRecDepth 200000 in
theorem mo_known_94_ok {d : Nat} {r29 : Int32 → Int32 → Int32 → Int32 → pH → pR} (hr29 : ∀ (x2 : Int32) (x3 : Int32) (x4 : Int32) (x5 : Int32) (h : pH) (q : Int32 × pH), r29 x2 x3 x4 x5 h = some q → px_G (d + 2 + 1) (pX_RX11, prog_13_method_93_code, 6, (some .int)) 29 [some (.inr (.inl 51)), none, some (.inl x2), some (.inl x3), some (.inl x4), some (.inl x5)] [] h q) : ∀ (x2 : Int32) (x3 : Int32) (x5 : Int32) (s0 : Int32) (h : pH) (q : Int32 × pH), mo_known_94 r29 x2 x3 x5 s0 h = some q → px_G (d + 2 + 1) (pX_RX11, prog_13_method_93_code, 6, (some .int)) 94 [some (.inr (.inl 51)), none, some (.inl x2), some (.inl x3), none, some (.inl x5)] [.inl s0] h q := by
  intro x2 x3 x5 s0 h q e
  exact px_blk_ok (d := d + 2) (M := (pX_RX11, prog_13_method_93_code, 6, (some .int))) (C := mo_known_orc) (code := mo_known_code) (ld := [95]) (kl := [(95, fun ls st h => px_if (px_fit [61, 0, 1, 1, 0, 1] ls && px_fits [1, 1] st) (mo_known_95 r29 (px_gi ls 2) (px_gi ls 3) (px_gi ls 5) (px_si st 0) (px_si st 1) h))]) (mo_known_orc_ok) pX_ok_RX11 mo_known_code_ok (px_k1 (px_ko (ts := [61, 0, 1, 1, 0, 1]) (ss := [1, 1]) fun ls st h q e => mo_known_95_ok hr29 _ _ _ _ _ _ _ e) px_k0) 76 94 _ _ h q e
set_option maxRecDepth 200000 in
theorem mo_known_62_ok {d : Nat} {r29 : Int32 → Int32 → Int32 → Int32 → pH → pR} (hr29 : ∀ (x2 : Int32) (x3 : Int32) (x4 : Int32) (x5 : Int32) (h : pH) (q : Int32 × pH), r29 x2 x3 x4 x5 h = some q → px_G (d + 2 + 1) (pX_RX11, prog_13_method_93_code, 6, (some .int)) 29 [some (.inr (.inl 51)), none, some (.inl x2), some (.inl x3), some (.inl x4), some (.inl x5)] [] h q) : ∀ (x2 : Int32) (x4 : Int32) (x5 : Int32) (s0 : Int32) (s1 : Int32) (h : pH) (q : Int32 × pH), mo_known_62 r29 x2 x4 x5 s0 s1 h = some q → px_G (d + 2 + 1) (pX_RX11, prog_13_method_93_code, 6, (some .int)) 62 [some (.inr (.inl 51)), none, some (.inl x2), none, some (.inl x4), some (.inl x5)] [.inl s0, .inl s1] h q := by
  intro x2 x4 x5 s0 s1 h q e
  exact px_blk_ok (d := d + 2) (M := (pX_RX11, prog_13_method_93_code, 6, (some .int))) (C := mo_known_orc) (code := mo_known_code) (ld := [94, 95]) (kl := [(94, fun ls st h => px_if (px_fit [61, 0, 1, 1, 0, 1] ls && px_fits [1] st) (mo_known_94 r29 (px_gi ls 2) (px_gi ls 3) (px_gi ls 5) (px_si st 0) h)), (95, fun ls st h => px_if (px_fit [61, 0, 1, 1, 0, 1] ls && px_fits [1, 1] st) (mo_known_95 r29 (px_gi ls 2) (px_gi ls 3) (px_gi ls 5) (px_si st 0) (px_si st 1) h))]) (mo_known_orc_ok) pX_ok_RX11 mo_known_code_ok (px_k1 (px_ko (ts := [61, 0, 1, 1, 0, 1]) (ss := [1]) fun ls st h q e => mo_known_94_ok hr29 _ _ _ _ _ _ e) (px_k1 (px_ko (ts := [61, 0, 1, 1, 0, 1]) (ss := [1, 1]) fun ls st h q e => mo_known_95_ok hr29 _ _ _ _ _ _ _ e) px_k0)) 76 62 _ _ h q e
set_option maxRecDepth 200000 in
theorem mo_known_29_ok {d : Nat} : ∀ (n : Nat) (x2 : Int32) (x3 : Int32) (x4 : Int32) (x5 : Int32) (h : pH) (q : Int32 × pH), mo_known_29 n x2 x3 x4 x5 h = some q → px_G (d + 2 + 1) (pX_RX11, prog_13_method_93_code, 6, (some .int)) 29 [some (.inr (.inl 51)), none, some (.inl x2), some (.inl x3), some (.inl x4), some (.inl x5)] [] h q := by
  intro n
  induction n with
  | zero =>
    intro x2 x3 x4 x5 h q e
    cases e
  | succ n ih =>
    intro x2 x3 x4 x5 h q e
    exact px_blk_ok (d := d + 2) (M := (pX_RX11, prog_13_method_93_code, 6, (some .int))) (C := mo_known_orc) (code := mo_known_code) (ld := [62]) (kl := [(62, fun ls st h => px_if (px_fit [61, 0, 1, 0, 1, 1] ls && px_fits [1, 1] st) (mo_known_62 (mo_known_29 n) (px_gi ls 2) (px_gi ls 4) (px_gi ls 5) (px_si st 0) (px_si st 1) h))]) (mo_known_orc_ok) pX_ok_RX11 mo_known_code_ok (px_k1 (px_ko (ts := [61, 0, 1, 0, 1, 1]) (ss := [1, 1]) fun ls st h q e => mo_known_62_ok ih _ _ _ _ _ _ _ e) px_k0) 76 29 _ _ h q e
set_option maxRecDepth 200000 in
theorem mo_known_ok {d : Nat} {x1 : Int32} {h : pH} {q : Int32 × pH} (e : mo_known x1 h = some q) : px_Con (d + 3) 265 [.inr (.inl 51), .inl x1] h q :=
  px_con (X := pX_RX11) (b := prog_13_method_93_code) (nL := 6) (rt := (some .int)) rfl rfl (Nat.le_of_ble_eq_true rfl) rfl (px_blk_ok (d := d + 2) (M := (pX_RX11, prog_13_method_93_code, 6, (some .int))) (C := mo_known_orc) (code := mo_known_code) (ld := [29]) (kl := [(29, fun ls st h => px_if (px_fit [61, 0, 1, 1, 1, 1] ls && px_fits [] st) (mo_known_29 px_F (px_gi ls 2) (px_gi ls 3) (px_gi ls 4) (px_gi ls 5) h))]) (mo_known_orc_ok) pX_ok_RX11 mo_known_code_ok (px_k1 (px_ko (ts := [61, 0, 1, 1, 1, 1]) (ss := []) fun ls st h q e => mo_known_29_ok _ _ _ _ _ _ _ e) px_k0) 76 0 _ _ _ q e)
/-! WordsUnsaidModel.sayable(I)I -/
noncomputable def mo_sayable_86 (r22 : Int32 → Int32 → Int32 → Int32 → pH → pR) (x1 : Int32) (x2 : Int32) (x3 : Int32) (x4 : Int32) (h : pH) : pR :=
  r22 x1 x2 x3 (x4 + px_c 1) h
noncomputable def mo_sayable_22 : Nat → Int32 → Int32 → Int32 → Int32 → pH → pR
  | 0, _, _, _, _, _ => none
  | n + 1, x1, x2, x3, x4, h =>
    if (h 51 6) ≤ x4 then
      let h1 := px_w h 51 13 (px_c 0)
      px_bind (mo_tell x3 h1) fun _ h3 =>
      some (x2, h3)
    else
      px_bind (mo_refusesSay x1 x4 h) fun z4 h5 =>
      if 0 ≤ z4 then
        let y2_6 := x2 ||| ((px_c 1) <<< (x4 &&& 31))
        px_if (px_ok 0 52 x1) <|
        px_bind (mo_peopleAt (h5 52 x1.toNatClampNeg) h5) fun z7 h8 =>
        px_if (px_ok 0 52 ((px_c 42) + x4)) <|
        px_bind (jn_bitCount ((z7 &&& ((h8 52 ((px_c 42) + x4).toNatClampNeg) ^^^ (px_c (-1)))) &&& (((px_c 1) <<< (x1 &&& 31)) ^^^ (px_c (-1)))) h8) fun z9 h10 =>
        let y3_11 := x3 + z9
        mo_sayable_86 (mo_sayable_22 n) x1 y2_6 y3_11 x4 h10
      else
        mo_sayable_86 (mo_sayable_22 n) x1 x2 x3 x4 h5
noncomputable def mo_sayable (x1 : Int32) (h : pH) : pR :=
  let h1 := px_w h 51 14 (px_c 0)
  px_bind (mo_isPerson x1 h1) fun z2 h3 =>
  if z2 = 0 then
    some (px_c (-1), h3)
  else
    mo_sayable_22 px_F x1 (px_c 0) (px_c 0) (px_c 0) h3
def mo_sayable_code : pCode := [(0, .aload_n 0, 1), (1, .iconst 0, 1), (2, .putfield 106, 3), (5, .aload_n 0, 1), (6, .iload_n 1, 1), (7, .invokevirtual 122, 3), (10, .ifCond .ne (5), 3), (13, .iconst (-1), 1), (14, .ireturn, 1), (15, .iconst 0, 1), (16, .istore_n 2, 1), (17, .iconst 0, 1), (18, .istore_n 3, 1), (19, .iconst 0, 1), (20, .istore 4, 2), (22, .iload 4, 2), (24, .aload_n 0, 1), (25, .getfield 119, 3), (28, .if_icmp .ge (64), 3), (31, .aload_n 0, 1), (32, .iload_n 1, 1), (33, .iload 4, 2), (35, .invokevirtual 337, 3), (38, .ifCond .ge (6), 3), (41, .goto (45), 3), (44, .iload_n 2, 1), (45, .iconst 1, 1), (46, .iload 4, 2), (48, .ishl, 1), (49, .ior, 1), (50, .istore_n 2, 1), (51, .iload_n 3, 1), (52, .aload_n 0, 1), (53, .aload_n 0, 1), (54, .getfield 9, 3), (57, .iload_n 1, 1), (58, .iaload, 1), (59, .invokevirtual 334, 3), (62, .aload_n 0, 1), (63, .getfield 9, 3), (66, .bipush (42), 2), (68, .iload 4, 2), (70, .iadd, 1), (71, .iaload, 1), (72, .iconst (-1), 1), (73, .ixor, 1), (74, .iand, 1), (75, .iconst 1, 1), (76, .iload_n 1, 1), (77, .ishl, 1), (78, .iconst (-1), 1), (79, .ixor, 1), (80, .iand, 1), (81, .invokestatic 222, 3), (84, .iadd, 1), (85, .istore_n 3, 1), (86, .iinc 4 (1), 3), (89, .goto (-67), 3), (92, .aload_n 0, 1), (93, .iconst 0, 1), (94, .putfield 109, 3), (97, .aload_n 0, 1), (98, .iload_n 3, 1), (99, .invokevirtual 312, 3), (102, .iload_n 2, 1), (103, .ireturn, 1)]
set_option maxRecDepth 200000 in
theorem mo_sayable_code_ok : px_code prog_13_method_94_code mo_sayable_code = true := by decide +kernel
noncomputable def mo_sayable_orc : pC := px_orc [(178, fun a h => match a with
    | [.inr (.inl 51), .inl v1] => mo_tell v1 h
    | _ => none), (231, fun a h => match a with
    | [.inr (.inl 51), .inl v1, .inl v2] => mo_refusesSay v1 v2 h
    | _ => none), (207, fun a h => match a with
    | [.inr (.inl 51), .inl v1] => mo_peopleAt v1 h
    | _ => none), (279, fun a h => match a with
    | [.inl v0] => jn_bitCount v0 h
    | _ => none), (179, fun a h => match a with
    | [.inr (.inl 51), .inl v1] => mo_isPerson v1 h
    | _ => none)]
theorem mo_sayable_orc_ok {d : Nat} : px_Or (d + 3) (mo_sayable_orc) := px_orc_ok (by
  refine px_o1 (fun a h q e => by
    dsimp only at e
    split at e
    · exact mo_tell_ok (d := d + 2) e
    · cases e) ?_
  refine px_o1 (fun a h q e => by
    dsimp only at e
    split at e
    · exact mo_refusesSay_ok (d := d + 0) e
    · cases e) ?_
  refine px_o1 (fun a h q e => by
    dsimp only at e
    split at e
    · exact mo_peopleAt_ok (d := d + 2) e
    · cases e) ?_
  refine px_o1 (fun a h q e => by
    dsimp only at e
    split at e
    · exact jn_bitCount_ok (d := d + 2) e
    · cases e) ?_
  refine px_o1 (fun a h q e => by
    dsimp only at e
    split at e
    · exact mo_isPerson_ok (d := d + 1) e
    · cases e) ?_
  exact px_o0)
set_option maxRecDepth 200000 in
theorem mo_sayable_86_ok {d : Nat} {r22 : Int32 → Int32 → Int32 → Int32 → pH → pR} (hr22 : ∀ (x1 : Int32) (x2 : Int32) (x3 : Int32) (x4 : Int32) (h : pH) (q : Int32 × pH), r22 x1 x2 x3 x4 h = some q → px_G (d + 3 + 1) (pX_RX11, prog_13_method_94_code, 5, (some .int)) 22 [some (.inr (.inl 51)), some (.inl x1), some (.inl x2), some (.inl x3), some (.inl x4)] [] h q) : ∀ (x1 : Int32) (x2 : Int32) (x3 : Int32) (x4 : Int32) (h : pH) (q : Int32 × pH), mo_sayable_86 r22 x1 x2 x3 x4 h = some q → px_G (d + 3 + 1) (pX_RX11, prog_13_method_94_code, 5, (some .int)) 86 [some (.inr (.inl 51)), some (.inl x1), some (.inl x2), some (.inl x3), some (.inl x4)] [] h q := by
  intro x1 x2 x3 x4 h q e
  exact px_blk_ok (d := d + 3) (M := (pX_RX11, prog_13_method_94_code, 5, (some .int))) (C := mo_sayable_orc) (code := mo_sayable_code) (ld := [22]) (kl := [(22, fun ls st h => px_if (px_fit [61, 1, 1, 1, 1] ls && px_fits [] st) (r22 (px_gi ls 1) (px_gi ls 2) (px_gi ls 3) (px_gi ls 4) h))]) (mo_sayable_orc_ok) pX_ok_RX11 mo_sayable_code_ok (px_k1 (px_ko (ts := [61, 1, 1, 1, 1]) (ss := []) fun ls st h q e => hr22 _ _ _ _ _ _ e) px_k0) 71 86 _ _ h q e
set_option maxRecDepth 200000 in
theorem mo_sayable_22_ok {d : Nat} : ∀ (n : Nat) (x1 : Int32) (x2 : Int32) (x3 : Int32) (x4 : Int32) (h : pH) (q : Int32 × pH), mo_sayable_22 n x1 x2 x3 x4 h = some q → px_G (d + 3 + 1) (pX_RX11, prog_13_method_94_code, 5, (some .int)) 22 [some (.inr (.inl 51)), some (.inl x1), some (.inl x2), some (.inl x3), some (.inl x4)] [] h q := by
  intro n
  induction n with
  | zero =>
    intro x1 x2 x3 x4 h q e
    cases e
  | succ n ih =>
    intro x1 x2 x3 x4 h q e
    exact px_blk_ok (d := d + 3) (M := (pX_RX11, prog_13_method_94_code, 5, (some .int))) (C := mo_sayable_orc) (code := mo_sayable_code) (ld := [86]) (kl := [(86, fun ls st h => px_if (px_fit [61, 1, 1, 1, 1] ls && px_fits [] st) (mo_sayable_86 (mo_sayable_22 n) (px_gi ls 1) (px_gi ls 2) (px_gi ls 3) (px_gi ls 4) h))]) (mo_sayable_orc_ok) pX_ok_RX11 mo_sayable_code_ok (px_k1 (px_ko (ts := [61, 1, 1, 1, 1]) (ss := []) fun ls st h q e => mo_sayable_86_ok ih _ _ _ _ _ _ e) px_k0) 71 22 _ _ h q e
set_option maxRecDepth 200000 in
theorem mo_sayable_ok {d : Nat} {x1 : Int32} {h : pH} {q : Int32 × pH} (e : mo_sayable x1 h = some q) : px_Con (d + 4) 266 [.inr (.inl 51), .inl x1] h q :=
  px_con (X := pX_RX11) (b := prog_13_method_94_code) (nL := 5) (rt := (some .int)) rfl rfl (Nat.le_of_ble_eq_true rfl) rfl (px_blk_ok (d := d + 3) (M := (pX_RX11, prog_13_method_94_code, 5, (some .int))) (C := mo_sayable_orc) (code := mo_sayable_code) (ld := [22]) (kl := [(22, fun ls st h => px_if (px_fit [61, 1, 1, 1, 1] ls && px_fits [] st) (mo_sayable_22 px_F (px_gi ls 1) (px_gi ls 2) (px_gi ls 3) (px_gi ls 4) h))]) (mo_sayable_orc_ok) pX_ok_RX11 mo_sayable_code_ok (px_k1 (px_ko (ts := [61, 1, 1, 1, 1]) (ss := []) fun ls st h q e => mo_sayable_22_ok _ _ _ _ _ _ _ e) px_k0) 71 0 _ _ _ q e)
/-! WordsUnsaidModel.apart()I -/
noncomputable def mo_apart_107 (r11 : Int32 → Int32 → Int32 → pH → pR) (x1 : Int32) (x3 : Int32) (s0 : Int32) (s1 : Int32) (h : pH) : pR :=
  let y2_1 := s1 ||| s0
  r11 x1 y2_1 (x3 + px_c 1) h
noncomputable def mo_apart_106 (r11 : Int32 → Int32 → Int32 → pH → pR) (x1 : Int32) (x3 : Int32) (s0 : Int32) (h : pH) : pR :=
  mo_apart_107 r11 x1 x3 (px_c 0) s0 h
noncomputable def mo_apart_87 (r11 : Int32 → Int32 → Int32 → pH → pR) (x2 : Int32) (x3 : Int32) (x4 : Int32) (x5 : Int32) (s0 : Int32) (s1 : Int32) (h : pH) : pR :=
  let y1_1 := s1 ||| s0
  if x5 = 0 then
    mo_apart_106 r11 y1_1 x3 x2 h
  else
    if x4 = 0 then
      mo_apart_107 r11 y1_1 x3 ((px_c 1) <<< (x3 &&& 31)) x2 h
    else
      mo_apart_106 r11 y1_1 x3 x2 h
noncomputable def mo_apart_86 (r11 : Int32 → Int32 → Int32 → pH → pR) (x2 : Int32) (x3 : Int32) (x4 : Int32) (x5 : Int32) (s0 : Int32) (h : pH) : pR :=
  mo_apart_87 r11 x2 x3 x4 x5 (px_c 0) s0 h
noncomputable def mo_apart_67 (r11 : Int32 → Int32 → Int32 → pH → pR) (x1 : Int32) (x2 : Int32) (x3 : Int32) (x4 : Int32) (s0 : Int32) (h : pH) : pR :=
  if x4 = 0 then
    mo_apart_86 r11 x2 x3 x4 s0 x1 h
  else
    if s0 = 0 then
      mo_apart_87 r11 x2 x3 x4 s0 ((px_c 1) <<< (x3 &&& 31)) x1 h
    else
      mo_apart_86 r11 x2 x3 x4 s0 x1 h
noncomputable def mo_apart_42 (r11 : Int32 → Int32 → Int32 → pH → pR) (x1 : Int32) (x2 : Int32) (x3 : Int32) (s0 : Int32) (h : pH) : pR :=
  px_if (px_ok 0 52 ((px_c 42) + x3)) <|
  px_bind (mo_peopleAt (px_c 1) h) fun z1 h2 =>
  if ((h 52 ((px_c 42) + x3).toNatClampNeg) &&& z1) = 0 then
    mo_apart_67 r11 x1 x2 x3 s0 (px_c 0) h2
  else
    mo_apart_67 r11 x1 x2 x3 s0 (px_c 1) h2
noncomputable def mo_apart_11 : Nat → Int32 → Int32 → Int32 → pH → pR
  | 0, _, _, _, _ => none
  | n + 1, x1, x2, x3, h =>
    if (h 51 6) ≤ x3 then
      let h1 := px_w h 51 13 (px_c 0)
      px_bind (mo_tell x1 h1) fun _ h3 =>
      px_bind (mo_tell x2 h3) fun _ h5 =>
      some (x1 ||| x2, h5)
    else
      px_if (px_ok 0 52 ((px_c 42) + x3)) <|
      px_bind (mo_peopleAt (px_c 0) h) fun z6 h7 =>
      if ((h 52 ((px_c 42) + x3).toNatClampNeg) &&& z6) = 0 then
        mo_apart_42 (mo_apart_11 n) x1 x2 x3 (px_c 0) h7
      else
        mo_apart_42 (mo_apart_11 n) x1 x2 x3 (px_c 1) h7
noncomputable def mo_apart (h : pH) : pR :=
  let h1 := px_w h 51 14 (px_c 0)
  mo_apart_11 px_F (px_c 0) (px_c 0) (px_c 0) h1
def mo_apart_code : pCode := [(0, .aload_n 0, 1), (1, .iconst 0, 1), (2, .putfield 106, 3), (5, .iconst 0, 1), (6, .istore_n 1, 1), (7, .iconst 0, 1), (8, .istore_n 2, 1), (9, .iconst 0, 1), (10, .istore_n 3, 1), (11, .iload_n 3, 1), (12, .aload_n 0, 1), (13, .getfield 119, 3), (16, .if_icmp .ge (99), 3), (19, .aload_n 0, 1), (20, .getfield 9, 3), (23, .bipush (42), 2), (25, .iload_n 3, 1), (26, .iadd, 1), (27, .iaload, 1), (28, .aload_n 0, 1), (29, .iconst 0, 1), (30, .invokevirtual 334, 3), (33, .iand, 1), (34, .ifCond .eq (7), 3), (37, .iconst 1, 1), (38, .goto (4), 3), (41, .iconst 0, 1), (42, .istore 4, 2), (44, .aload_n 0, 1), (45, .getfield 9, 3), (48, .bipush (42), 2), (50, .iload_n 3, 1), (51, .iadd, 1), (52, .iaload, 1), (53, .aload_n 0, 1), (54, .iconst 1, 1), (55, .invokevirtual 334, 3), (58, .iand, 1), (59, .ifCond .eq (7), 3), (62, .iconst 1, 1), (63, .goto (4), 3), (66, .iconst 0, 1), (67, .istore 5, 2), (69, .iload_n 1, 1), (70, .iload 4, 2), (72, .ifCond .eq (14), 3), (75, .iload 5, 2), (77, .ifCond .ne (9), 3), (80, .iconst 1, 1), (81, .iload_n 3, 1), (82, .ishl, 1), (83, .goto (4), 3), (86, .iconst 0, 1), (87, .ior, 1), (88, .istore_n 1, 1), (89, .iload_n 2, 1), (90, .iload 5, 2), (92, .ifCond .eq (14), 3), (95, .iload 4, 2), (97, .ifCond .ne (9), 3), (100, .iconst 1, 1), (101, .iload_n 3, 1), (102, .ishl, 1), (103, .goto (4), 3), (106, .iconst 0, 1), (107, .ior, 1), (108, .istore_n 2, 1), (109, .iinc 3 (1), 3), (112, .goto (-101), 3), (115, .aload_n 0, 1), (116, .iconst 0, 1), (117, .putfield 109, 3), (120, .aload_n 0, 1), (121, .iload_n 1, 1), (122, .invokevirtual 312, 3), (125, .aload_n 0, 1), (126, .iload_n 2, 1), (127, .invokevirtual 312, 3), (130, .iload_n 1, 1), (131, .iload_n 2, 1), (132, .ior, 1), (133, .ireturn, 1)]
set_option maxRecDepth 200000 in
theorem mo_apart_code_ok : px_code prog_13_method_95_code mo_apart_code = true := by decide +kernel
noncomputable def mo_apart_orc : pC := px_orc [(207, fun a h => match a with
    | [.inr (.inl 51), .inl v1] => mo_peopleAt v1 h
    | _ => none), (178, fun a h => match a with
    | [.inr (.inl 51), .inl v1] => mo_tell v1 h
    | _ => none)]
theorem mo_apart_orc_ok {d : Nat} : px_Or (d + 1) (mo_apart_orc) := px_orc_ok (by
  refine px_o1 (fun a h q e => by
    dsimp only at e
    split at e
    · exact mo_peopleAt_ok (d := d + 0) e
    · cases e) ?_
  refine px_o1 (fun a h q e => by
    dsimp only at e
    split at e
    · exact mo_tell_ok (d := d + 0) e
    · cases e) ?_
  exact px_o0)
set_option maxRecDepth 200000 in
theorem mo_apart_107_ok {d : Nat} {r11 : Int32 → Int32 → Int32 → pH → pR} (hr11 : ∀ (x1 : Int32) (x2 : Int32) (x3 : Int32) (h : pH) (q : Int32 × pH), r11 x1 x2 x3 h = some q → px_G (d + 1 + 1) (pX_RX11, prog_13_method_95_code, 6, (some .int)) 11 [some (.inr (.inl 51)), some (.inl x1), some (.inl x2), some (.inl x3), none, none] [] h q) : ∀ (x1 : Int32) (x3 : Int32) (s0 : Int32) (s1 : Int32) (h : pH) (q : Int32 × pH), mo_apart_107 r11 x1 x3 s0 s1 h = some q → px_G (d + 1 + 1) (pX_RX11, prog_13_method_95_code, 6, (some .int)) 107 [some (.inr (.inl 51)), some (.inl x1), none, some (.inl x3), none, none] [.inl s0, .inl s1] h q := by
  intro x1 x3 s0 s1 h q e
  exact px_blk_ok (d := d + 1) (M := (pX_RX11, prog_13_method_95_code, 6, (some .int))) (C := mo_apart_orc) (code := mo_apart_code) (ld := [11]) (kl := [(11, fun ls st h => px_if (px_fit [61, 1, 1, 1, 0, 0] ls && px_fits [] st) (r11 (px_gi ls 1) (px_gi ls 2) (px_gi ls 3) h))]) (mo_apart_orc_ok) pX_ok_RX11 mo_apart_code_ok (px_k1 (px_ko (ts := [61, 1, 1, 1, 0, 0]) (ss := []) fun ls st h q e => hr11 _ _ _ _ _ e) px_k0) 87 107 _ _ h q e
set_option maxRecDepth 200000 in
theorem mo_apart_106_ok {d : Nat} {r11 : Int32 → Int32 → Int32 → pH → pR} (hr11 : ∀ (x1 : Int32) (x2 : Int32) (x3 : Int32) (h : pH) (q : Int32 × pH), r11 x1 x2 x3 h = some q → px_G (d + 1 + 1) (pX_RX11, prog_13_method_95_code, 6, (some .int)) 11 [some (.inr (.inl 51)), some (.inl x1), some (.inl x2), some (.inl x3), none, none] [] h q) : ∀ (x1 : Int32) (x3 : Int32) (s0 : Int32) (h : pH) (q : Int32 × pH), mo_apart_106 r11 x1 x3 s0 h = some q → px_G (d + 1 + 1) (pX_RX11, prog_13_method_95_code, 6, (some .int)) 106 [some (.inr (.inl 51)), some (.inl x1), none, some (.inl x3), none, none] [.inl s0] h q := by
  intro x1 x3 s0 h q e
  exact px_blk_ok (d := d + 1) (M := (pX_RX11, prog_13_method_95_code, 6, (some .int))) (C := mo_apart_orc) (code := mo_apart_code) (ld := [107]) (kl := [(107, fun ls st h => px_if (px_fit [61, 1, 0, 1, 0, 0] ls && px_fits [1, 1] st) (mo_apart_107 r11 (px_gi ls 1) (px_gi ls 3) (px_si st 0) (px_si st 1) h))]) (mo_apart_orc_ok) pX_ok_RX11 mo_apart_code_ok (px_k1 (px_ko (ts := [61, 1, 0, 1, 0, 0]) (ss := [1, 1]) fun ls st h q e => mo_apart_107_ok hr11 _ _ _ _ _ _ e) px_k0) 87 106 _ _ h q e
set_option maxRecDepth 200000 in
theorem mo_apart_87_ok {d : Nat} {r11 : Int32 → Int32 → Int32 → pH → pR} (hr11 : ∀ (x1 : Int32) (x2 : Int32) (x3 : Int32) (h : pH) (q : Int32 × pH), r11 x1 x2 x3 h = some q → px_G (d + 1 + 1) (pX_RX11, prog_13_method_95_code, 6, (some .int)) 11 [some (.inr (.inl 51)), some (.inl x1), some (.inl x2), some (.inl x3), none, none] [] h q) : ∀ (x2 : Int32) (x3 : Int32) (x4 : Int32) (x5 : Int32) (s0 : Int32) (s1 : Int32) (h : pH) (q : Int32 × pH), mo_apart_87 r11 x2 x3 x4 x5 s0 s1 h = some q → px_G (d + 1 + 1) (pX_RX11, prog_13_method_95_code, 6, (some .int)) 87 [some (.inr (.inl 51)), none, some (.inl x2), some (.inl x3), some (.inl x4), some (.inl x5)] [.inl s0, .inl s1] h q := by
  intro x2 x3 x4 x5 s0 s1 h q e
  exact px_blk_ok (d := d + 1) (M := (pX_RX11, prog_13_method_95_code, 6, (some .int))) (C := mo_apart_orc) (code := mo_apart_code) (ld := [106, 107]) (kl := [(106, fun ls st h => px_if (px_fit [61, 1, 0, 1, 0, 0] ls && px_fits [1] st) (mo_apart_106 r11 (px_gi ls 1) (px_gi ls 3) (px_si st 0) h)), (107, fun ls st h => px_if (px_fit [61, 1, 0, 1, 0, 0] ls && px_fits [1, 1] st) (mo_apart_107 r11 (px_gi ls 1) (px_gi ls 3) (px_si st 0) (px_si st 1) h))]) (mo_apart_orc_ok) pX_ok_RX11 mo_apart_code_ok (px_k1 (px_ko (ts := [61, 1, 0, 1, 0, 0]) (ss := [1]) fun ls st h q e => mo_apart_106_ok hr11 _ _ _ _ _ e) (px_k1 (px_ko (ts := [61, 1, 0, 1, 0, 0]) (ss := [1, 1]) fun ls st h q e => mo_apart_107_ok hr11 _ _ _ _ _ _ e) px_k0)) 87 87 _ _ h q e
set_option maxRecDepth 200000 in
theorem mo_apart_86_ok {d : Nat} {r11 : Int32 → Int32 → Int32 → pH → pR} (hr11 : ∀ (x1 : Int32) (x2 : Int32) (x3 : Int32) (h : pH) (q : Int32 × pH), r11 x1 x2 x3 h = some q → px_G (d + 1 + 1) (pX_RX11, prog_13_method_95_code, 6, (some .int)) 11 [some (.inr (.inl 51)), some (.inl x1), some (.inl x2), some (.inl x3), none, none] [] h q) : ∀ (x2 : Int32) (x3 : Int32) (x4 : Int32) (x5 : Int32) (s0 : Int32) (h : pH) (q : Int32 × pH), mo_apart_86 r11 x2 x3 x4 x5 s0 h = some q → px_G (d + 1 + 1) (pX_RX11, prog_13_method_95_code, 6, (some .int)) 86 [some (.inr (.inl 51)), none, some (.inl x2), some (.inl x3), some (.inl x4), some (.inl x5)] [.inl s0] h q := by
  intro x2 x3 x4 x5 s0 h q e
  exact px_blk_ok (d := d + 1) (M := (pX_RX11, prog_13_method_95_code, 6, (some .int))) (C := mo_apart_orc) (code := mo_apart_code) (ld := [87]) (kl := [(87, fun ls st h => px_if (px_fit [61, 0, 1, 1, 1, 1] ls && px_fits [1, 1] st) (mo_apart_87 r11 (px_gi ls 2) (px_gi ls 3) (px_gi ls 4) (px_gi ls 5) (px_si st 0) (px_si st 1) h))]) (mo_apart_orc_ok) pX_ok_RX11 mo_apart_code_ok (px_k1 (px_ko (ts := [61, 0, 1, 1, 1, 1]) (ss := [1, 1]) fun ls st h q e => mo_apart_87_ok hr11 _ _ _ _ _ _ _ _ e) px_k0) 87 86 _ _ h q e
set_option maxRecDepth 200000 in
theorem mo_apart_67_ok {d : Nat} {r11 : Int32 → Int32 → Int32 → pH → pR} (hr11 : ∀ (x1 : Int32) (x2 : Int32) (x3 : Int32) (h : pH) (q : Int32 × pH), r11 x1 x2 x3 h = some q → px_G (d + 1 + 1) (pX_RX11, prog_13_method_95_code, 6, (some .int)) 11 [some (.inr (.inl 51)), some (.inl x1), some (.inl x2), some (.inl x3), none, none] [] h q) : ∀ (x1 : Int32) (x2 : Int32) (x3 : Int32) (x4 : Int32) (s0 : Int32) (h : pH) (q : Int32 × pH), mo_apart_67 r11 x1 x2 x3 x4 s0 h = some q → px_G (d + 1 + 1) (pX_RX11, prog_13_method_95_code, 6, (some .int)) 67 [some (.inr (.inl 51)), some (.inl x1), some (.inl x2), some (.inl x3), some (.inl x4), none] [.inl s0] h q := by
  intro x1 x2 x3 x4 s0 h q e
  exact px_blk_ok (d := d + 1) (M := (pX_RX11, prog_13_method_95_code, 6, (some .int))) (C := mo_apart_orc) (code := mo_apart_code) (ld := [86, 87]) (kl := [(86, fun ls st h => px_if (px_fit [61, 0, 1, 1, 1, 1] ls && px_fits [1] st) (mo_apart_86 r11 (px_gi ls 2) (px_gi ls 3) (px_gi ls 4) (px_gi ls 5) (px_si st 0) h)), (87, fun ls st h => px_if (px_fit [61, 0, 1, 1, 1, 1] ls && px_fits [1, 1] st) (mo_apart_87 r11 (px_gi ls 2) (px_gi ls 3) (px_gi ls 4) (px_gi ls 5) (px_si st 0) (px_si st 1) h))]) (mo_apart_orc_ok) pX_ok_RX11 mo_apart_code_ok (px_k1 (px_ko (ts := [61, 0, 1, 1, 1, 1]) (ss := [1]) fun ls st h q e => mo_apart_86_ok hr11 _ _ _ _ _ _ _ e) (px_k1 (px_ko (ts := [61, 0, 1, 1, 1, 1]) (ss := [1, 1]) fun ls st h q e => mo_apart_87_ok hr11 _ _ _ _ _ _ _ _ e) px_k0)) 87 67 _ _ h q e
set_option maxRecDepth 200000 in
theorem mo_apart_42_ok {d : Nat} {r11 : Int32 → Int32 → Int32 → pH → pR} (hr11 : ∀ (x1 : Int32) (x2 : Int32) (x3 : Int32) (h : pH) (q : Int32 × pH), r11 x1 x2 x3 h = some q → px_G (d + 1 + 1) (pX_RX11, prog_13_method_95_code, 6, (some .int)) 11 [some (.inr (.inl 51)), some (.inl x1), some (.inl x2), some (.inl x3), none, none] [] h q) : ∀ (x1 : Int32) (x2 : Int32) (x3 : Int32) (s0 : Int32) (h : pH) (q : Int32 × pH), mo_apart_42 r11 x1 x2 x3 s0 h = some q → px_G (d + 1 + 1) (pX_RX11, prog_13_method_95_code, 6, (some .int)) 42 [some (.inr (.inl 51)), some (.inl x1), some (.inl x2), some (.inl x3), none, none] [.inl s0] h q := by
  intro x1 x2 x3 s0 h q e
  exact px_blk_ok (d := d + 1) (M := (pX_RX11, prog_13_method_95_code, 6, (some .int))) (C := mo_apart_orc) (code := mo_apart_code) (ld := [67]) (kl := [(67, fun ls st h => px_if (px_fit [61, 1, 1, 1, 1, 0] ls && px_fits [1] st) (mo_apart_67 r11 (px_gi ls 1) (px_gi ls 2) (px_gi ls 3) (px_gi ls 4) (px_si st 0) h))]) (mo_apart_orc_ok) pX_ok_RX11 mo_apart_code_ok (px_k1 (px_ko (ts := [61, 1, 1, 1, 1, 0]) (ss := [1]) fun ls st h q e => mo_apart_67_ok hr11 _ _ _ _ _ _ _ e) px_k0) 87 42 _ _ h q e
set_option maxRecDepth 200000 in
theorem mo_apart_11_ok {d : Nat} : ∀ (n : Nat) (x1 : Int32) (x2 : Int32) (x3 : Int32) (h : pH) (q : Int32 × pH), mo_apart_11 n x1 x2 x3 h = some q → px_G (d + 1 + 1) (pX_RX11, prog_13_method_95_code, 6, (some .int)) 11 [some (.inr (.inl 51)), some (.inl x1), some (.inl x2), some (.inl x3), none, none] [] h q := by
  intro n
  induction n with
  | zero =>
    intro x1 x2 x3 h q e
    cases e
  | succ n ih =>
    intro x1 x2 x3 h q e
    exact px_blk_ok (d := d + 1) (M := (pX_RX11, prog_13_method_95_code, 6, (some .int))) (C := mo_apart_orc) (code := mo_apart_code) (ld := [42]) (kl := [(42, fun ls st h => px_if (px_fit [61, 1, 1, 1, 0, 0] ls && px_fits [1] st) (mo_apart_42 (mo_apart_11 n) (px_gi ls 1) (px_gi ls 2) (px_gi ls 3) (px_si st 0) h))]) (mo_apart_orc_ok) pX_ok_RX11 mo_apart_code_ok (px_k1 (px_ko (ts := [61, 1, 1, 1, 0, 0]) (ss := [1]) fun ls st h q e => mo_apart_42_ok ih _ _ _ _ _ _ e) px_k0) 87 11 _ _ h q e
set_option maxRecDepth 200000 in
theorem mo_apart_ok {d : Nat} {h : pH} {q : Int32 × pH} (e : mo_apart h = some q) : px_Con (d + 2) 267 [.inr (.inl 51)] h q :=
  px_con (X := pX_RX11) (b := prog_13_method_95_code) (nL := 6) (rt := (some .int)) rfl rfl (Nat.le_of_ble_eq_true rfl) rfl (px_blk_ok (d := d + 1) (M := (pX_RX11, prog_13_method_95_code, 6, (some .int))) (C := mo_apart_orc) (code := mo_apart_code) (ld := [11]) (kl := [(11, fun ls st h => px_if (px_fit [61, 1, 1, 1, 0, 0] ls && px_fits [] st) (mo_apart_11 px_F (px_gi ls 1) (px_gi ls 2) (px_gi ls 3) h))]) (mo_apart_orc_ok) pX_ok_RX11 mo_apart_code_ok (px_k1 (px_ko (ts := [61, 1, 1, 1, 0, 0]) (ss := []) fun ls st h q e => mo_apart_11_ok _ _ _ _ _ _ e) px_k0) 87 0 _ _ _ q e)
/-! WordsUnsaidModel.spared()I -/
noncomputable def mo_spared_115 (r14 : Int32 → Int32 → Int32 → pH → pR) (x1 : Int32) (x2 : Int32) (x3 : Int32) (h : pH) : pR :=
  r14 x1 x2 (x3 + px_c 1) h
noncomputable def mo_spared_90 (r14 : Int32 → Int32 → Int32 → pH → pR) (r31 : Int32 → Int32 → Int32 → Int32 → Int32 → Int32 → pH → pR) (x1 : Int32) (x2 : Int32) (x3 : Int32) (x4 : Int32) (x5 : Int32) (x6 : Int32) (h : pH) : pR :=
  r31 x1 x2 x3 x4 x5 (x6 + px_c 1) h
noncomputable def mo_spared_31 (r14 : Int32 → Int32 → Int32 → pH → pR) : Nat → Int32 → Int32 → Int32 → Int32 → Int32 → Int32 → pH → pR
  | 0, _, _, _, _, _, _, _ => none
  | n + 1, x1, x2, x3, x4, x5, x6, h =>
    if (h 51 6) ≤ x6 then
      if x5 = 0 then
        mo_spared_115 r14 x1 x2 x3 h
      else
        if x4 < x2 then
          mo_spared_115 r14 x3 x4 x3 h
        else
          mo_spared_115 r14 x1 x2 x3 h
    else
      px_if (px_ok 0 57 x6) <|
      if (h 57 x6.toNatClampNeg) = x3 then
        px_if (px_ok 0 52 ((px_c 42) + x6)) <|
        px_if (px_ok 0 52 ((px_c 32) + x6)) <|
        px_bind (jn_bitCount ((h 52 ((px_c 42) + x6).toNatClampNeg) &&& (((px_c 1) <<< ((h 52 ((px_c 32) + x6).toNatClampNeg) &&& 31)) ^^^ (px_c (-1)))) h) fun z1 h2 =>
        let y4_3 := x4 + z1
        mo_spared_90 r14 (mo_spared_31 r14 n) x1 x2 x3 y4_3 (px_c 1) x6 h2
      else
        mo_spared_90 r14 (mo_spared_31 r14 n) x1 x2 x3 x4 x5 x6 h
noncomputable def mo_spared_14 : Nat → Int32 → Int32 → Int32 → pH → pR
  | 0, _, _, _, _ => none
  | n + 1, x1, x2, x3, h =>
    if (h 51 4) ≤ x3 then
      if 0 ≤ x1 then
        let h1 := px_w h 51 13 (px_c 0)
        px_bind (mo_tell x2 h1) fun _ h3 =>
        some (x1, h3)
      else
        some (px_c (-2), h)
    else
      mo_spared_31 (mo_spared_14 n) px_F x1 x2 x3 (px_c 0) (px_c 0) (px_c 0) h
noncomputable def mo_spared (h : pH) : pR :=
  let h1 := px_w h 51 14 (px_c 0)
  let y2_2 := px_k 1000000
  mo_spared_14 px_F (px_c (-2)) y2_2 (px_c 0) h1
def mo_spared_code : pCode := [(0, .aload_n 0, 1), (1, .iconst 0, 1), (2, .putfield 106, 3), (5, .bipush (-2), 2), (7, .istore_n 1, 1), (8, .ldc_w 291, 3), (11, .istore_n 2, 1), (12, .iconst 0, 1), (13, .istore_n 3, 1), (14, .iload_n 3, 1), (15, .aload_n 0, 1), (16, .getfield 112, 3), (19, .if_icmp .ge (102), 3), (22, .iconst 0, 1), (23, .istore 4, 2), (25, .iconst 0, 1), (26, .istore 5, 2), (28, .iconst 0, 1), (29, .istore 6, 2), (31, .iload 6, 2), (33, .aload_n 0, 1), (34, .getfield 119, 3), (37, .if_icmp .ge (59), 3), (40, .aload_n 0, 1), (41, .getfield 29, 3), (44, .iload 6, 2), (46, .iaload, 1), (47, .iload_n 3, 1), (48, .if_icmp .eq (6), 3), (51, .goto (39), 3), (54, .iconst 1, 1), (55, .istore 5, 2), (57, .iload 4, 2), (59, .aload_n 0, 1), (60, .getfield 9, 3), (63, .bipush (42), 2), (65, .iload 6, 2), (67, .iadd, 1), (68, .iaload, 1), (69, .iconst 1, 1), (70, .aload_n 0, 1), (71, .getfield 9, 3), (74, .bipush (32), 2), (76, .iload 6, 2), (78, .iadd, 1), (79, .iaload, 1), (80, .ishl, 1), (81, .iconst (-1), 1), (82, .ixor, 1), (83, .iand, 1), (84, .invokestatic 222, 3), (87, .iadd, 1), (88, .istore 4, 2), (90, .iinc 6 (1), 3), (93, .goto (-62), 3), (96, .iload 5, 2), (98, .ifCond .eq (17), 3), (101, .iload 4, 2), (103, .iload_n 2, 1), (104, .if_icmp .lt (6), 3), (107, .goto (8), 3), (110, .iload_n 3, 1), (111, .istore_n 1, 1), (112, .iload 4, 2), (114, .istore_n 2, 1), (115, .iinc 3 (1), 3), (118, .goto (-104), 3), (121, .iload_n 1, 1), (122, .ifCond .ge (6), 3), (125, .bipush (-2), 2), (127, .ireturn, 1), (128, .aload_n 0, 1), (129, .iconst 0, 1), (130, .putfield 109, 3), (133, .aload_n 0, 1), (134, .iload_n 2, 1), (135, .invokevirtual 312, 3), (138, .iload_n 1, 1), (139, .ireturn, 1)]
set_option maxRecDepth 200000 in
theorem mo_spared_code_ok : px_code prog_13_method_96_code mo_spared_code = true := by decide +kernel
noncomputable def mo_spared_orc : pC := px_orc [(279, fun a h => match a with
    | [.inl v0] => jn_bitCount v0 h
    | _ => none), (178, fun a h => match a with
    | [.inr (.inl 51), .inl v1] => mo_tell v1 h
    | _ => none)]
theorem mo_spared_orc_ok {d : Nat} : px_Or (d + 1) (mo_spared_orc) := px_orc_ok (by
  refine px_o1 (fun a h q e => by
    dsimp only at e
    split at e
    · exact jn_bitCount_ok (d := d + 0) e
    · cases e) ?_
  refine px_o1 (fun a h q e => by
    dsimp only at e
    split at e
    · exact mo_tell_ok (d := d + 0) e
    · cases e) ?_
  exact px_o0)
set_option maxRecDepth 200000 in
theorem mo_spared_115_ok {d : Nat} {r14 : Int32 → Int32 → Int32 → pH → pR} (hr14 : ∀ (x1 : Int32) (x2 : Int32) (x3 : Int32) (h : pH) (q : Int32 × pH), r14 x1 x2 x3 h = some q → px_G (d + 1 + 1) (pX_RX11, prog_13_method_96_code, 7, (some .int)) 14 [some (.inr (.inl 51)), some (.inl x1), some (.inl x2), some (.inl x3), none, none, none] [] h q) : ∀ (x1 : Int32) (x2 : Int32) (x3 : Int32) (h : pH) (q : Int32 × pH), mo_spared_115 r14 x1 x2 x3 h = some q → px_G (d + 1 + 1) (pX_RX11, prog_13_method_96_code, 7, (some .int)) 115 [some (.inr (.inl 51)), some (.inl x1), some (.inl x2), some (.inl x3), none, none, none] [] h q := by
  intro x1 x2 x3 h q e
  exact px_blk_ok (d := d + 1) (M := (pX_RX11, prog_13_method_96_code, 7, (some .int))) (C := mo_spared_orc) (code := mo_spared_code) (ld := [14]) (kl := [(14, fun ls st h => px_if (px_fit [61, 1, 1, 1, 0, 0, 0] ls && px_fits [] st) (r14 (px_gi ls 1) (px_gi ls 2) (px_gi ls 3) h))]) (mo_spared_orc_ok) pX_ok_RX11 mo_spared_code_ok (px_k1 (px_ko (ts := [61, 1, 1, 1, 0, 0, 0]) (ss := []) fun ls st h q e => hr14 _ _ _ _ _ e) px_k0) 84 115 _ _ h q e
set_option maxRecDepth 200000 in
theorem mo_spared_90_ok {d : Nat} {r14 : Int32 → Int32 → Int32 → pH → pR} (hr14 : ∀ (x1 : Int32) (x2 : Int32) (x3 : Int32) (h : pH) (q : Int32 × pH), r14 x1 x2 x3 h = some q → px_G (d + 1 + 1) (pX_RX11, prog_13_method_96_code, 7, (some .int)) 14 [some (.inr (.inl 51)), some (.inl x1), some (.inl x2), some (.inl x3), none, none, none] [] h q) {r31 : Int32 → Int32 → Int32 → Int32 → Int32 → Int32 → pH → pR} (hr31 : ∀ (x1 : Int32) (x2 : Int32) (x3 : Int32) (x4 : Int32) (x5 : Int32) (x6 : Int32) (h : pH) (q : Int32 × pH), r31 x1 x2 x3 x4 x5 x6 h = some q → px_G (d + 1 + 1) (pX_RX11, prog_13_method_96_code, 7, (some .int)) 31 [some (.inr (.inl 51)), some (.inl x1), some (.inl x2), some (.inl x3), some (.inl x4), some (.inl x5), some (.inl x6)] [] h q) : ∀ (x1 : Int32) (x2 : Int32) (x3 : Int32) (x4 : Int32) (x5 : Int32) (x6 : Int32) (h : pH) (q : Int32 × pH), mo_spared_90 r14 r31 x1 x2 x3 x4 x5 x6 h = some q → px_G (d + 1 + 1) (pX_RX11, prog_13_method_96_code, 7, (some .int)) 90 [some (.inr (.inl 51)), some (.inl x1), some (.inl x2), some (.inl x3), some (.inl x4), some (.inl x5), some (.inl x6)] [] h q := by
  intro x1 x2 x3 x4 x5 x6 h q e
  exact px_blk_ok (d := d + 1) (M := (pX_RX11, prog_13_method_96_code, 7, (some .int))) (C := mo_spared_orc) (code := mo_spared_code) (ld := [31]) (kl := [(31, fun ls st h => px_if (px_fit [61, 1, 1, 1, 1, 1, 1] ls && px_fits [] st) (r31 (px_gi ls 1) (px_gi ls 2) (px_gi ls 3) (px_gi ls 4) (px_gi ls 5) (px_gi ls 6) h))]) (mo_spared_orc_ok) pX_ok_RX11 mo_spared_code_ok (px_k1 (px_ko (ts := [61, 1, 1, 1, 1, 1, 1]) (ss := []) fun ls st h q e => hr31 _ _ _ _ _ _ _ _ e) px_k0) 84 90 _ _ h q e
set_option maxRecDepth 200000 in
theorem mo_spared_31_ok {d : Nat} {r14 : Int32 → Int32 → Int32 → pH → pR} (hr14 : ∀ (x1 : Int32) (x2 : Int32) (x3 : Int32) (h : pH) (q : Int32 × pH), r14 x1 x2 x3 h = some q → px_G (d + 1 + 1) (pX_RX11, prog_13_method_96_code, 7, (some .int)) 14 [some (.inr (.inl 51)), some (.inl x1), some (.inl x2), some (.inl x3), none, none, none] [] h q) : ∀ (n : Nat) (x1 : Int32) (x2 : Int32) (x3 : Int32) (x4 : Int32) (x5 : Int32) (x6 : Int32) (h : pH) (q : Int32 × pH), mo_spared_31 r14 n x1 x2 x3 x4 x5 x6 h = some q → px_G (d + 1 + 1) (pX_RX11, prog_13_method_96_code, 7, (some .int)) 31 [some (.inr (.inl 51)), some (.inl x1), some (.inl x2), some (.inl x3), some (.inl x4), some (.inl x5), some (.inl x6)] [] h q := by
  intro n
  induction n with
  | zero =>
    intro x1 x2 x3 x4 x5 x6 h q e
    cases e
  | succ n ih =>
    intro x1 x2 x3 x4 x5 x6 h q e
    exact px_blk_ok (d := d + 1) (M := (pX_RX11, prog_13_method_96_code, 7, (some .int))) (C := mo_spared_orc) (code := mo_spared_code) (ld := [90, 115]) (kl := [(90, fun ls st h => px_if (px_fit [61, 1, 1, 1, 1, 1, 1] ls && px_fits [] st) (mo_spared_90 r14 (mo_spared_31 r14 n) (px_gi ls 1) (px_gi ls 2) (px_gi ls 3) (px_gi ls 4) (px_gi ls 5) (px_gi ls 6) h)), (115, fun ls st h => px_if (px_fit [61, 1, 1, 1, 0, 0, 0] ls && px_fits [] st) (mo_spared_115 r14 (px_gi ls 1) (px_gi ls 2) (px_gi ls 3) h))]) (mo_spared_orc_ok) pX_ok_RX11 mo_spared_code_ok (px_k1 (px_ko (ts := [61, 1, 1, 1, 1, 1, 1]) (ss := []) fun ls st h q e => mo_spared_90_ok hr14 ih _ _ _ _ _ _ _ _ e) (px_k1 (px_ko (ts := [61, 1, 1, 1, 0, 0, 0]) (ss := []) fun ls st h q e => mo_spared_115_ok hr14 _ _ _ _ _ e) px_k0)) 84 31 _ _ h q e
set_option maxRecDepth 200000 in
theorem mo_spared_14_ok {d : Nat} : ∀ (n : Nat) (x1 : Int32) (x2 : Int32) (x3 : Int32) (h : pH) (q : Int32 × pH), mo_spared_14 n x1 x2 x3 h = some q → px_G (d + 1 + 1) (pX_RX11, prog_13_method_96_code, 7, (some .int)) 14 [some (.inr (.inl 51)), some (.inl x1), some (.inl x2), some (.inl x3), none, none, none] [] h q := by
  intro n
  induction n with
  | zero =>
    intro x1 x2 x3 h q e
    cases e
  | succ n ih =>
    intro x1 x2 x3 h q e
    exact px_blk_ok (d := d + 1) (M := (pX_RX11, prog_13_method_96_code, 7, (some .int))) (C := mo_spared_orc) (code := mo_spared_code) (ld := [31]) (kl := [(31, fun ls st h => px_if (px_fit [61, 1, 1, 1, 1, 1, 1] ls && px_fits [] st) (mo_spared_31 (mo_spared_14 n) px_F (px_gi ls 1) (px_gi ls 2) (px_gi ls 3) (px_gi ls 4) (px_gi ls 5) (px_gi ls 6) h))]) (mo_spared_orc_ok) pX_ok_RX11 mo_spared_code_ok (px_k1 (px_ko (ts := [61, 1, 1, 1, 1, 1, 1]) (ss := []) fun ls st h q e => mo_spared_31_ok ih _ _ _ _ _ _ _ _ _ e) px_k0) 84 14 _ _ h q e
set_option maxRecDepth 200000 in
theorem mo_spared_ok {d : Nat} {h : pH} {q : Int32 × pH} (e : mo_spared h = some q) : px_Con (d + 2) 268 [.inr (.inl 51)] h q :=
  px_con (X := pX_RX11) (b := prog_13_method_96_code) (nL := 7) (rt := (some .int)) rfl rfl (Nat.le_of_ble_eq_true rfl) rfl (px_blk_ok (d := d + 1) (M := (pX_RX11, prog_13_method_96_code, 7, (some .int))) (C := mo_spared_orc) (code := mo_spared_code) (ld := [14]) (kl := [(14, fun ls st h => px_if (px_fit [61, 1, 1, 1, 0, 0, 0] ls && px_fits [] st) (mo_spared_14 px_F (px_gi ls 1) (px_gi ls 2) (px_gi ls 3) h))]) (mo_spared_orc_ok) pX_ok_RX11 mo_spared_code_ok (px_k1 (px_ko (ts := [61, 1, 1, 1, 0, 0, 0]) (ss := []) fun ls st h q e => mo_spared_14_ok _ _ _ _ _ _ e) px_k0) 84 0 _ _ _ q e)
/-! WordsUnsaidModel.findShore(II)Z -/
noncomputable def mo_findShore_32 (h : pH) : pR :=
  px_bz (px_c 0) h
noncomputable def mo_findShore_66 : Nat → Int32 → pH → pR
  | 0, _, _ => none
  | n + 1, x3, h =>
    if (px_c 3) < x3 then
      px_bz (px_c 1) h
    else
      px_bind (mo_goRows x3 (px_c 2) h) fun z1 h2 =>
      mo_findShore_66 n (x3 + px_c 1) h2
noncomputable def mo_findShore (x1 : Int32) (x2 : Int32) (h : pH) : pR :=
  px_bind (mo_isPerson x1 h) fun z1 h2 =>
  if z1 = 0 then
    mo_findShore_32 h2
  else
    px_if (px_ok 0 52 x1) <|
    if (px_c 1) < (h2 52 x1.toNatClampNeg) then
      mo_findShore_32 h2
    else
      px_bind (mo_in x2 (px_c 0) ((h2 51 2) - (px_c 1)) h2) fun z3 h4 =>
      if z3 = 0 then
        mo_findShore_32 h4
      else
        let h5 := px_w h4 51 44 x2
        px_if (px_ok 0 52 x1) <|
        px_if (px_ok 0 52 x1) <|
        px_bind (mo_beginRows 52 ((px_c 1) <<< (x1 &&& 31)) (h5 52 x1.toNatClampNeg) ((px_c 1) - (h5 52 x1.toNatClampNeg)) h5) fun _ h7 =>
        mo_findShore_66 px_F (px_c 1) h7
def mo_findShore_code : pCode := [(0, .aload_n 0, 1), (1, .iload_n 1, 1), (2, .invokevirtual 122, 3), (5, .ifCond .eq (27), 3), (8, .aload_n 0, 1), (9, .getfield 9, 3), (12, .iload_n 1, 1), (13, .iaload, 1), (14, .iconst 1, 1), (15, .if_icmp .gt (17), 3), (18, .iload_n 2, 1), (19, .iconst 0, 1), (20, .aload_n 0, 1), (21, .getfield 126, 3), (24, .iconst 1, 1), (25, .isub, 1), (26, .invokestatic 115, 3), (29, .ifCond .ne (5), 3), (32, .iconst 0, 1), (33, .ireturn, 1), (34, .aload_n 0, 1), (35, .iload_n 2, 1), (36, .putfield 398, 3), (39, .aload_n 0, 1), (40, .aload_n 0, 1), (41, .getfield 9, 3), (44, .iconst 1, 1), (45, .iload_n 1, 1), (46, .ishl, 1), (47, .aload_n 0, 1), (48, .getfield 9, 3), (51, .iload_n 1, 1), (52, .iaload, 1), (53, .iconst 1, 1), (54, .aload_n 0, 1), (55, .getfield 9, 3), (58, .iload_n 1, 1), (59, .iaload, 1), (60, .isub, 1), (61, .invokevirtual 407, 3), (64, .iconst 1, 1), (65, .istore_n 3, 1), (66, .iload_n 3, 1), (67, .iconst 3, 1), (68, .if_icmp .gt (16), 3), (71, .aload_n 0, 1), (72, .iload_n 3, 1), (73, .iconst 2, 1), (74, .invokevirtual 411, 3), (77, .pop, 1), (78, .iinc 3 (1), 3), (81, .goto (-15), 3), (84, .iconst 1, 1), (85, .ireturn, 1)]
set_option maxRecDepth 200000 in
theorem mo_findShore_code_ok : px_code prog_13_method_97_code mo_findShore_code = true := by decide +kernel
noncomputable def mo_findShore_orc : pC := px_orc [(249, fun a h => match a with
    | [.inr (.inl 51), .inl v1, .inl v2] => mo_goRows v1 v2 h
    | _ => none), (179, fun a h => match a with
    | [.inr (.inl 51), .inl v1] => mo_isPerson v1 h
    | _ => none), (175, fun a h => match a with
    | [.inl v0, .inl v1, .inl v2] => mo_in v0 v1 v2 h
    | _ => none), (248, fun a h => match a with
    | [.inr (.inl 51), .inr (.inl v1), .inl v2, .inl v3, .inl v4] => mo_beginRows v1 v2 v3 v4 h
    | _ => none)]
theorem mo_findShore_orc_ok {d : Nat} : px_Or (d + 118) (mo_findShore_orc) := px_orc_ok (by
  refine px_o1 (fun a h q e => by
    dsimp only at e
    split at e
    · exact mo_goRows_ok (d := d + 0) e
    · cases e) ?_
  refine px_o1 (fun a h q e => by
    dsimp only at e
    split at e
    · exact mo_isPerson_ok (d := d + 116) e
    · cases e) ?_
  refine px_o1 (fun a h q e => by
    dsimp only at e
    split at e
    · exact mo_in_ok (d := d + 117) e
    · cases e) ?_
  refine px_o1 (fun a h q e => by
    dsimp only at e
    split at e
    · exact mo_beginRows_ok (d := d + 116) e
    · cases e) ?_
  exact px_o0)
set_option maxRecDepth 200000 in
theorem mo_findShore_32_ok {d : Nat} : ∀ (h : pH) (q : Int32 × pH), mo_findShore_32 h = some q → px_G (d + 118 + 1) (pX_RX11, prog_13_method_97_code, 4, (some .boolean)) 32 [none, none, none, none] [] h q := by
  intro h q e
  exact px_blk_ok (d := d + 118) (M := (pX_RX11, prog_13_method_97_code, 4, (some .boolean))) (C := mo_findShore_orc) (code := mo_findShore_code) (ld := []) (kl := []) (mo_findShore_orc_ok) pX_ok_RX11 mo_findShore_code_ok (px_k0) 59 32 _ _ h q e
set_option maxRecDepth 200000 in
theorem mo_findShore_66_ok {d : Nat} : ∀ (n : Nat) (x3 : Int32) (h : pH) (q : Int32 × pH), mo_findShore_66 n x3 h = some q → px_G (d + 118 + 1) (pX_RX11, prog_13_method_97_code, 4, (some .boolean)) 66 [some (.inr (.inl 51)), none, none, some (.inl x3)] [] h q := by
  intro n
  induction n with
  | zero =>
    intro x3 h q e
    cases e
  | succ n ih =>
    intro x3 h q e
    exact px_blk_ok (d := d + 118) (M := (pX_RX11, prog_13_method_97_code, 4, (some .boolean))) (C := mo_findShore_orc) (code := mo_findShore_code) (ld := [66]) (kl := [(66, fun ls st h => px_if (px_fit [61, 0, 0, 1] ls && px_fits [] st) (mo_findShore_66 n (px_gi ls 3) h))]) (mo_findShore_orc_ok) pX_ok_RX11 mo_findShore_code_ok (px_k1 (px_ko (ts := [61, 0, 0, 1]) (ss := []) fun ls st h q e => ih _ _ _ e) px_k0) 59 66 _ _ h q e
set_option maxRecDepth 200000 in
theorem mo_findShore_ok {d : Nat} {x1 : Int32} {x2 : Int32} {h : pH} {q : Int32 × pH} (e : mo_findShore x1 x2 h = some q) : px_Con (d + 119) 269 [.inr (.inl 51), .inl x1, .inl x2] h q :=
  px_con (X := pX_RX11) (b := prog_13_method_97_code) (nL := 4) (rt := (some .boolean)) rfl rfl (Nat.le_of_ble_eq_true rfl) rfl (px_blk_ok (d := d + 118) (M := (pX_RX11, prog_13_method_97_code, 4, (some .boolean))) (C := mo_findShore_orc) (code := mo_findShore_code) (ld := [66, 32]) (kl := [(66, fun ls st h => px_if (px_fit [61, 0, 0, 1] ls && px_fits [] st) (mo_findShore_66 px_F (px_gi ls 3) h)), (32, fun ls st h => px_if (px_fit [0, 0, 0, 0] ls && px_fits [] st) (mo_findShore_32 h))]) (mo_findShore_orc_ok) pX_ok_RX11 mo_findShore_code_ok (px_k1 (px_ko (ts := [61, 0, 0, 1]) (ss := []) fun ls st h q e => mo_findShore_66_ok _ _ _ _ e) (px_k1 (px_ko (ts := [0, 0, 0, 0]) (ss := []) fun ls st h q e => mo_findShore_32_ok _ _ e) px_k0)) 59 0 _ _ _ q e)
/-! WordsUnsaidModel.ashore(II)I -/
noncomputable def mo_ashore_54 (h : pH) : pR :=
  some (h 51 47, h)
noncomputable def mo_ashore_23 : Nat → Int32 → pH → pR
  | 0, _, _ => none
  | n + 1, x3, h =>
    if (h 51 50) ≤ x3 then
      mo_ashore_54 h
    else
      if (h 51 47) ≤ 0 then
        mo_ashore_54 h
      else
        px_if (px_ok 0 72 x3) <|
        px_bind (mo_tell (h 72 x3.toNatClampNeg) h) fun _ h2 =>
        mo_ashore_23 n (x3 + px_c 1) h2
noncomputable def mo_ashore_21 (h : pH) : pR :=
  mo_ashore_23 px_F (px_c 0) h
noncomputable def mo_ashore (x1 : Int32) (x2 : Int32) (h : pH) : pR :=
  let h1 := px_w h 51 14 (px_c 0)
  px_bind (mo_findShore x1 x2 h1) fun z2 h3 =>
  if z2 = 0 then
    some (px_c (-1), h3)
  else
    let h4 := px_w h3 51 13 (px_c 0)
    mo_ashore_21 h4
def mo_ashore_code : pCode := [(0, .aload_n 0, 1), (1, .iconst 0, 1), (2, .putfield 106, 3), (5, .aload_n 0, 1), (6, .iload_n 1, 1), (7, .iload_n 2, 1), (8, .invokevirtual 446, 3), (11, .ifCond .ne (5), 3), (14, .iconst (-1), 1), (15, .ireturn, 1), (16, .aload_n 0, 1), (17, .iconst 0, 1), (18, .putfield 109, 3), (21, .iconst 0, 1), (22, .istore_n 3, 1), (23, .iload_n 3, 1), (24, .aload_n 0, 1), (25, .getfield 404, 3), (28, .if_icmp .ge (26), 3), (31, .aload_n 0, 1), (32, .getfield 386, 3), (35, .ifCond .le (19), 3), (38, .aload_n 0, 1), (39, .aload_n 0, 1), (40, .getfield 75, 3), (43, .iload_n 3, 1), (44, .iaload, 1), (45, .invokevirtual 312, 3), (48, .iinc 3 (1), 3), (51, .goto (-28), 3), (54, .aload_n 0, 1), (55, .getfield 386, 3), (58, .ireturn, 1)]
set_option maxRecDepth 200000 in
theorem mo_ashore_code_ok : px_code prog_13_method_98_code mo_ashore_code = true := by decide +kernel
noncomputable def mo_ashore_orc : pC := px_orc [(178, fun a h => match a with
    | [.inr (.inl 51), .inl v1] => mo_tell v1 h
    | _ => none), (269, fun a h => match a with
    | [.inr (.inl 51), .inl v1, .inl v2] => mo_findShore v1 v2 h
    | _ => none)]
theorem mo_ashore_orc_ok {d : Nat} : px_Or (d + 119) (mo_ashore_orc) := px_orc_ok (by
  refine px_o1 (fun a h q e => by
    dsimp only at e
    split at e
    · exact mo_tell_ok (d := d + 118) e
    · cases e) ?_
  refine px_o1 (fun a h q e => by
    dsimp only at e
    split at e
    · exact mo_findShore_ok (d := d + 0) e
    · cases e) ?_
  exact px_o0)
set_option maxRecDepth 200000 in
theorem mo_ashore_54_ok {d : Nat} : ∀ (h : pH) (q : Int32 × pH), mo_ashore_54 h = some q → px_G (d + 119 + 1) (pX_RX11, prog_13_method_98_code, 4, (some .int)) 54 [some (.inr (.inl 51)), none, none, none] [] h q := by
  intro h q e
  exact px_blk_ok (d := d + 119) (M := (pX_RX11, prog_13_method_98_code, 4, (some .int))) (C := mo_ashore_orc) (code := mo_ashore_code) (ld := []) (kl := []) (mo_ashore_orc_ok) pX_ok_RX11 mo_ashore_code_ok (px_k0) 38 54 _ _ h q e
set_option maxRecDepth 200000 in
theorem mo_ashore_23_ok {d : Nat} : ∀ (n : Nat) (x3 : Int32) (h : pH) (q : Int32 × pH), mo_ashore_23 n x3 h = some q → px_G (d + 119 + 1) (pX_RX11, prog_13_method_98_code, 4, (some .int)) 23 [some (.inr (.inl 51)), none, none, some (.inl x3)] [] h q := by
  intro n
  induction n with
  | zero =>
    intro x3 h q e
    cases e
  | succ n ih =>
    intro x3 h q e
    exact px_blk_ok (d := d + 119) (M := (pX_RX11, prog_13_method_98_code, 4, (some .int))) (C := mo_ashore_orc) (code := mo_ashore_code) (ld := [23, 54]) (kl := [(23, fun ls st h => px_if (px_fit [61, 0, 0, 1] ls && px_fits [] st) (mo_ashore_23 n (px_gi ls 3) h)), (54, fun ls st h => px_if (px_fit [61, 0, 0, 0] ls && px_fits [] st) (mo_ashore_54 h))]) (mo_ashore_orc_ok) pX_ok_RX11 mo_ashore_code_ok (px_k1 (px_ko (ts := [61, 0, 0, 1]) (ss := []) fun ls st h q e => ih _ _ _ e) (px_k1 (px_ko (ts := [61, 0, 0, 0]) (ss := []) fun ls st h q e => mo_ashore_54_ok _ _ e) px_k0)) 38 23 _ _ h q e
set_option maxRecDepth 200000 in
theorem mo_ashore_21_ok {d : Nat} : ∀ (h : pH) (q : Int32 × pH), mo_ashore_21 h = some q → px_G (d + 119 + 1) (pX_RX11, prog_13_method_98_code, 4, (some .int)) 21 [some (.inr (.inl 51)), none, none, none] [] h q := by
  intro h q e
  exact px_blk_ok (d := d + 119) (M := (pX_RX11, prog_13_method_98_code, 4, (some .int))) (C := mo_ashore_orc) (code := mo_ashore_code) (ld := [23]) (kl := [(23, fun ls st h => px_if (px_fit [61, 0, 0, 1] ls && px_fits [] st) (mo_ashore_23 px_F (px_gi ls 3) h))]) (mo_ashore_orc_ok) pX_ok_RX11 mo_ashore_code_ok (px_k1 (px_ko (ts := [61, 0, 0, 1]) (ss := []) fun ls st h q e => mo_ashore_23_ok _ _ _ _ e) px_k0) 38 21 _ _ h q e
set_option maxRecDepth 200000 in
theorem mo_ashore_ok {d : Nat} {x1 : Int32} {x2 : Int32} {h : pH} {q : Int32 × pH} (e : mo_ashore x1 x2 h = some q) : px_Con (d + 120) 270 [.inr (.inl 51), .inl x1, .inl x2] h q :=
  px_con (X := pX_RX11) (b := prog_13_method_98_code) (nL := 4) (rt := (some .int)) rfl rfl (Nat.le_of_ble_eq_true rfl) rfl (px_blk_ok (d := d + 119) (M := (pX_RX11, prog_13_method_98_code, 4, (some .int))) (C := mo_ashore_orc) (code := mo_ashore_code) (ld := [21]) (kl := [(21, fun ls st h => px_if (px_fit [61, 0, 0, 0] ls && px_fits [] st) (mo_ashore_21 h))]) (mo_ashore_orc_ok) pX_ok_RX11 mo_ashore_code_ok (px_k1 (px_ko (ts := [61, 0, 0, 0]) (ss := []) fun ls st h q e => mo_ashore_21_ok _ _ e) px_k0) 38 0 _ _ _ q e)
/-! WordsUnsaidModel.about(II)I -/
noncomputable def mo_about_66 (r26 : Int32 → Int32 → pH → pR) (x3 : Int32) (x4 : Int32) (h : pH) : pR :=
  r26 x3 (x4 + px_c 1) h
noncomputable def mo_about_26 : Nat → Int32 → Int32 → pH → pR
  | 0, _, _, _ => none
  | n + 1, x3, x4, h =>
    if (h 51 6) ≤ x4 then
      some (x3, h)
    else
      px_if (px_ok 0 71 x4) <|
      if (h 71 x4.toNatClampNeg) = 0 then
        mo_about_66 (mo_about_26 n) x3 x4 h
      else
        let y3_1 := x3 ||| ((px_c 1) <<< (x4 &&& 31))
        px_if (px_ok 0 71 x4) <|
        px_bind (mo_tell (h 71 x4.toNatClampNeg) h) fun _ h3 =>
        mo_about_66 (mo_about_26 n) y3_1 x4 h3
noncomputable def mo_about_23 (x3 : Int32) (h : pH) : pR :=
  mo_about_26 px_F x3 (px_c 0) h
noncomputable def mo_about (x1 : Int32) (x2 : Int32) (h : pH) : pR :=
  let h1 := px_w h 51 14 (px_c 0)
  px_bind (mo_findShore x1 x2 h1) fun z2 h3 =>
  if z2 = 0 then
    some (px_c (-1), h3)
  else
    let h4 := px_w h3 51 13 (px_c 0)
    mo_about_23 (px_c 0) h4
def mo_about_code : pCode := [(0, .aload_n 0, 1), (1, .iconst 0, 1), (2, .putfield 106, 3), (5, .aload_n 0, 1), (6, .iload_n 1, 1), (7, .iload_n 2, 1), (8, .invokevirtual 446, 3), (11, .ifCond .ne (5), 3), (14, .iconst (-1), 1), (15, .ireturn, 1), (16, .iconst 0, 1), (17, .istore_n 3, 1), (18, .aload_n 0, 1), (19, .iconst 0, 1), (20, .putfield 109, 3), (23, .iconst 0, 1), (24, .istore 4, 2), (26, .iload 4, 2), (28, .aload_n 0, 1), (29, .getfield 119, 3), (32, .if_icmp .ge (40), 3), (35, .aload_n 0, 1), (36, .getfield 72, 3), (39, .iload 4, 2), (41, .iaload, 1), (42, .ifCond .ne (6), 3), (45, .goto (21), 3), (48, .iload_n 3, 1), (49, .iconst 1, 1), (50, .iload 4, 2), (52, .ishl, 1), (53, .ior, 1), (54, .istore_n 3, 1), (55, .aload_n 0, 1), (56, .aload_n 0, 1), (57, .getfield 72, 3), (60, .iload 4, 2), (62, .iaload, 1), (63, .invokevirtual 312, 3), (66, .iinc 4 (1), 3), (69, .goto (-43), 3), (72, .iload_n 3, 1), (73, .ireturn, 1)]
set_option maxRecDepth 200000 in
theorem mo_about_code_ok : px_code prog_13_method_99_code mo_about_code = true := by decide +kernel
noncomputable def mo_about_orc : pC := px_orc [(178, fun a h => match a with
    | [.inr (.inl 51), .inl v1] => mo_tell v1 h
    | _ => none), (269, fun a h => match a with
    | [.inr (.inl 51), .inl v1, .inl v2] => mo_findShore v1 v2 h
    | _ => none)]
theorem mo_about_orc_ok {d : Nat} : px_Or (d + 119) (mo_about_orc) := px_orc_ok (by
  refine px_o1 (fun a h q e => by
    dsimp only at e
    split at e
    · exact mo_tell_ok (d := d + 118) e
    · cases e) ?_
  refine px_o1 (fun a h q e => by
    dsimp only at e
    split at e
    · exact mo_findShore_ok (d := d + 0) e
    · cases e) ?_
  exact px_o0)
set_option maxRecDepth 200000 in
theorem mo_about_66_ok {d : Nat} {r26 : Int32 → Int32 → pH → pR} (hr26 : ∀ (x3 : Int32) (x4 : Int32) (h : pH) (q : Int32 × pH), r26 x3 x4 h = some q → px_G (d + 119 + 1) (pX_RX11, prog_13_method_99_code, 5, (some .int)) 26 [some (.inr (.inl 51)), none, none, some (.inl x3), some (.inl x4)] [] h q) : ∀ (x3 : Int32) (x4 : Int32) (h : pH) (q : Int32 × pH), mo_about_66 r26 x3 x4 h = some q → px_G (d + 119 + 1) (pX_RX11, prog_13_method_99_code, 5, (some .int)) 66 [some (.inr (.inl 51)), none, none, some (.inl x3), some (.inl x4)] [] h q := by
  intro x3 x4 h q e
  exact px_blk_ok (d := d + 119) (M := (pX_RX11, prog_13_method_99_code, 5, (some .int))) (C := mo_about_orc) (code := mo_about_code) (ld := [26]) (kl := [(26, fun ls st h => px_if (px_fit [61, 0, 0, 1, 1] ls && px_fits [] st) (r26 (px_gi ls 3) (px_gi ls 4) h))]) (mo_about_orc_ok) pX_ok_RX11 mo_about_code_ok (px_k1 (px_ko (ts := [61, 0, 0, 1, 1]) (ss := []) fun ls st h q e => hr26 _ _ _ _ e) px_k0) 48 66 _ _ h q e
set_option maxRecDepth 200000 in
theorem mo_about_26_ok {d : Nat} : ∀ (n : Nat) (x3 : Int32) (x4 : Int32) (h : pH) (q : Int32 × pH), mo_about_26 n x3 x4 h = some q → px_G (d + 119 + 1) (pX_RX11, prog_13_method_99_code, 5, (some .int)) 26 [some (.inr (.inl 51)), none, none, some (.inl x3), some (.inl x4)] [] h q := by
  intro n
  induction n with
  | zero =>
    intro x3 x4 h q e
    cases e
  | succ n ih =>
    intro x3 x4 h q e
    exact px_blk_ok (d := d + 119) (M := (pX_RX11, prog_13_method_99_code, 5, (some .int))) (C := mo_about_orc) (code := mo_about_code) (ld := [66]) (kl := [(66, fun ls st h => px_if (px_fit [61, 0, 0, 1, 1] ls && px_fits [] st) (mo_about_66 (mo_about_26 n) (px_gi ls 3) (px_gi ls 4) h))]) (mo_about_orc_ok) pX_ok_RX11 mo_about_code_ok (px_k1 (px_ko (ts := [61, 0, 0, 1, 1]) (ss := []) fun ls st h q e => mo_about_66_ok ih _ _ _ _ e) px_k0) 48 26 _ _ h q e
set_option maxRecDepth 200000 in
theorem mo_about_23_ok {d : Nat} : ∀ (x3 : Int32) (h : pH) (q : Int32 × pH), mo_about_23 x3 h = some q → px_G (d + 119 + 1) (pX_RX11, prog_13_method_99_code, 5, (some .int)) 23 [some (.inr (.inl 51)), none, none, some (.inl x3), none] [] h q := by
  intro x3 h q e
  exact px_blk_ok (d := d + 119) (M := (pX_RX11, prog_13_method_99_code, 5, (some .int))) (C := mo_about_orc) (code := mo_about_code) (ld := [26]) (kl := [(26, fun ls st h => px_if (px_fit [61, 0, 0, 1, 1] ls && px_fits [] st) (mo_about_26 px_F (px_gi ls 3) (px_gi ls 4) h))]) (mo_about_orc_ok) pX_ok_RX11 mo_about_code_ok (px_k1 (px_ko (ts := [61, 0, 0, 1, 1]) (ss := []) fun ls st h q e => mo_about_26_ok _ _ _ _ _ e) px_k0) 48 23 _ _ h q e
set_option maxRecDepth 200000 in
theorem mo_about_ok {d : Nat} {x1 : Int32} {x2 : Int32} {h : pH} {q : Int32 × pH} (e : mo_about x1 x2 h = some q) : px_Con (d + 120) 271 [.inr (.inl 51), .inl x1, .inl x2] h q :=
  px_con (X := pX_RX11) (b := prog_13_method_99_code) (nL := 5) (rt := (some .int)) rfl rfl (Nat.le_of_ble_eq_true rfl) rfl (px_blk_ok (d := d + 119) (M := (pX_RX11, prog_13_method_99_code, 5, (some .int))) (C := mo_about_orc) (code := mo_about_code) (ld := [23]) (kl := [(23, fun ls st h => px_if (px_fit [61, 0, 0, 1, 0] ls && px_fits [] st) (mo_about_23 (px_gi ls 3) h))]) (mo_about_orc_ok) pX_ok_RX11 mo_about_code_ok (px_k1 (px_ko (ts := [61, 0, 0, 1, 0]) (ss := []) fun ls st h q e => mo_about_23_ok _ _ _ e) px_k0) 48 0 _ _ _ q e)
/-! WordsUnsaidModel.bargain(II)I -/
noncomputable def mo_bargain_29 (h : pH) : pR :=
  some (px_c (-1), h)
noncomputable def mo_bargain_102 (r37 : Int32 → Int32 → Int32 → Int32 → pH → pR) (x1 : Int32) (x2 : Int32) (x3 : Int32) (x4 : Int32) (h : pH) : pR :=
  r37 x1 x2 x3 (x4 + px_c 1) h
noncomputable def mo_bargain_99 (r37 : Int32 → Int32 → Int32 → Int32 → pH → pR) (x1 : Int32) (x2 : Int32) (x4 : Int32) (h : pH) : pR :=
  mo_bargain_102 r37 x1 x2 x4 x4 h
noncomputable def mo_bargain_37 : Nat → Int32 → Int32 → Int32 → Int32 → pH → pR
  | 0, _, _, _, _, _ => none
  | n + 1, x1, x2, x3, x4, h =>
    if (h 51 6) ≤ x4 then
      if 0 ≤ x3 then
        let h1 := px_w h 51 13 (px_c 0)
        px_bind (mo_priceOf x3 h1) fun z2 h3 =>
        px_bind (mo_tell z2 h3) fun _ h5 =>
        px_if (px_ok 0 52 ((px_c 12) + x3)) <|
        px_bind (mo_tell (h5 52 ((px_c 12) + x3).toNatClampNeg) h5) fun _ h7 =>
        some (x3, h7)
      else
        some (px_c (-2), h)
    else
      px_bind (mo_refusesSell x1 x2 x4 h) fun z8 h9 =>
      if 0 ≤ z8 then
        if x3 < 0 then
          mo_bargain_99 (mo_bargain_37 n) x1 x2 x4 h9
        else
          px_if (px_ok 0 52 ((px_c 12) + x4)) <|
          px_bind (mo_priceOf x3 h9) fun z10 h11 =>
          px_if (px_ok 0 52 ((px_c 12) + x3)) <|
          px_bind (mo_priceOf x4 h11) fun z12 h13 =>
          if ((h9 52 ((px_c 12) + x4).toNatClampNeg) * z10) ≤ ((h11 52 ((px_c 12) + x3).toNatClampNeg) * z12) then
            mo_bargain_102 (mo_bargain_37 n) x1 x2 x3 x4 h13
          else
            mo_bargain_99 (mo_bargain_37 n) x1 x2 x4 h13
      else
        mo_bargain_102 (mo_bargain_37 n) x1 x2 x3 x4 h9
noncomputable def mo_bargain (x1 : Int32) (x2 : Int32) (h : pH) : pR :=
  let h1 := px_w h 51 14 (px_c 0)
  px_bind (mo_areTwo x1 x2 h1) fun z2 h3 =>
  if z2 = 0 then
    mo_bargain_29 h3
  else
    px_if (px_ok 0 52 x1) <|
    px_if (px_ok 0 52 x2) <|
    if (h3 52 x1.toNatClampNeg) = (h3 52 x2.toNatClampNeg) then
      mo_bargain_37 px_F x1 x2 (px_c (-2)) (px_c 0) h3
    else
      mo_bargain_29 h3
def mo_bargain_code : pCode := [(0, .aload_n 0, 1), (1, .iconst 0, 1), (2, .putfield 106, 3), (5, .aload_n 0, 1), (6, .iload_n 1, 1), (7, .iload_n 2, 1), (8, .invokevirtual 299, 3), (11, .ifCond .eq (18), 3), (14, .aload_n 0, 1), (15, .getfield 9, 3), (18, .iload_n 1, 1), (19, .iaload, 1), (20, .aload_n 0, 1), (21, .getfield 9, 3), (24, .iload_n 2, 1), (25, .iaload, 1), (26, .if_icmp .eq (5), 3), (29, .iconst (-1), 1), (30, .ireturn, 1), (31, .bipush (-2), 2), (33, .istore_n 3, 1), (34, .iconst 0, 1), (35, .istore 4, 2), (37, .iload 4, 2), (39, .aload_n 0, 1), (40, .getfield 119, 3), (43, .if_icmp .ge (65), 3), (46, .aload_n 0, 1), (47, .iload_n 1, 1), (48, .iload_n 2, 1), (49, .iload 4, 2), (51, .invokevirtual 352, 3), (54, .ifCond .ge (6), 3), (57, .goto (45), 3), (60, .iload_n 3, 1), (61, .ifCond .lt (38), 3), (64, .aload_n 0, 1), (65, .getfield 9, 3), (68, .bipush (12), 2), (70, .iload 4, 2), (72, .iadd, 1), (73, .iaload, 1), (74, .aload_n 0, 1), (75, .iload_n 3, 1), (76, .invokevirtual 349, 3), (79, .imul, 1), (80, .aload_n 0, 1), (81, .getfield 9, 3), (84, .bipush (12), 2), (86, .iload_n 3, 1), (87, .iadd, 1), (88, .iaload, 1), (89, .aload_n 0, 1), (90, .iload 4, 2), (92, .invokevirtual 349, 3), (95, .imul, 1), (96, .if_icmp .le (6), 3), (99, .iload 4, 2), (101, .istore_n 3, 1), (102, .iinc 4 (1), 3), (105, .goto (-68), 3), (108, .iload_n 3, 1), (109, .ifCond .ge (6), 3), (112, .bipush (-2), 2), (114, .ireturn, 1), (115, .aload_n 0, 1), (116, .iconst 0, 1), (117, .putfield 109, 3), (120, .aload_n 0, 1), (121, .aload_n 0, 1), (122, .iload_n 3, 1), (123, .invokevirtual 349, 3), (126, .invokevirtual 312, 3), (129, .aload_n 0, 1), (130, .aload_n 0, 1), (131, .getfield 9, 3), (134, .bipush (12), 2), (136, .iload_n 3, 1), (137, .iadd, 1), (138, .iaload, 1), (139, .invokevirtual 312, 3), (142, .iload_n 3, 1), (143, .ireturn, 1)]
set_option maxRecDepth 200000 in
theorem mo_bargain_code_ok : px_code prog_13_method_100_code mo_bargain_code = true := by decide +kernel
noncomputable def mo_bargain_orc : pC := px_orc [(237, fun a h => match a with
    | [.inr (.inl 51), .inl v1] => mo_priceOf v1 h
    | _ => none), (178, fun a h => match a with
    | [.inr (.inl 51), .inl v1] => mo_tell v1 h
    | _ => none), (238, fun a h => match a with
    | [.inr (.inl 51), .inl v1, .inl v2, .inl v3] => mo_refusesSell v1 v2 v3 h
    | _ => none), (181, fun a h => match a with
    | [.inr (.inl 51), .inl v1, .inl v2] => mo_areTwo v1 v2 h
    | _ => none)]
theorem mo_bargain_orc_ok {d : Nat} : px_Or (d + 4) (mo_bargain_orc) := px_orc_ok (by
  refine px_o1 (fun a h q e => by
    dsimp only at e
    split at e
    · exact mo_priceOf_ok (d := d + 3) e
    · cases e) ?_
  refine px_o1 (fun a h q e => by
    dsimp only at e
    split at e
    · exact mo_tell_ok (d := d + 3) e
    · cases e) ?_
  refine px_o1 (fun a h q e => by
    dsimp only at e
    split at e
    · exact mo_refusesSell_ok (d := d + 0) e
    · cases e) ?_
  refine px_o1 (fun a h q e => by
    dsimp only at e
    split at e
    · exact mo_areTwo_ok (d := d + 1) e
    · cases e) ?_
  exact px_o0)
set_option maxRecDepth 200000 in
theorem mo_bargain_29_ok {d : Nat} : ∀ (h : pH) (q : Int32 × pH), mo_bargain_29 h = some q → px_G (d + 4 + 1) (pX_RX11, prog_13_method_100_code, 5, (some .int)) 29 [none, none, none, none, none] [] h q := by
  intro h q e
  exact px_blk_ok (d := d + 4) (M := (pX_RX11, prog_13_method_100_code, 5, (some .int))) (C := mo_bargain_orc) (code := mo_bargain_code) (ld := []) (kl := []) (mo_bargain_orc_ok) pX_ok_RX11 mo_bargain_code_ok (px_k0) 88 29 _ _ h q e
set_option maxRecDepth 200000 in
theorem mo_bargain_102_ok {d : Nat} {r37 : Int32 → Int32 → Int32 → Int32 → pH → pR} (hr37 : ∀ (x1 : Int32) (x2 : Int32) (x3 : Int32) (x4 : Int32) (h : pH) (q : Int32 × pH), r37 x1 x2 x3 x4 h = some q → px_G (d + 4 + 1) (pX_RX11, prog_13_method_100_code, 5, (some .int)) 37 [some (.inr (.inl 51)), some (.inl x1), some (.inl x2), some (.inl x3), some (.inl x4)] [] h q) : ∀ (x1 : Int32) (x2 : Int32) (x3 : Int32) (x4 : Int32) (h : pH) (q : Int32 × pH), mo_bargain_102 r37 x1 x2 x3 x4 h = some q → px_G (d + 4 + 1) (pX_RX11, prog_13_method_100_code, 5, (some .int)) 102 [some (.inr (.inl 51)), some (.inl x1), some (.inl x2), some (.inl x3), some (.inl x4)] [] h q := by
  intro x1 x2 x3 x4 h q e
  exact px_blk_ok (d := d + 4) (M := (pX_RX11, prog_13_method_100_code, 5, (some .int))) (C := mo_bargain_orc) (code := mo_bargain_code) (ld := [37]) (kl := [(37, fun ls st h => px_if (px_fit [61, 1, 1, 1, 1] ls && px_fits [] st) (r37 (px_gi ls 1) (px_gi ls 2) (px_gi ls 3) (px_gi ls 4) h))]) (mo_bargain_orc_ok) pX_ok_RX11 mo_bargain_code_ok (px_k1 (px_ko (ts := [61, 1, 1, 1, 1]) (ss := []) fun ls st h q e => hr37 _ _ _ _ _ _ e) px_k0) 88 102 _ _ h q e
set_option maxRecDepth 200000 in
theorem mo_bargain_99_ok {d : Nat} {r37 : Int32 → Int32 → Int32 → Int32 → pH → pR} (hr37 : ∀ (x1 : Int32) (x2 : Int32) (x3 : Int32) (x4 : Int32) (h : pH) (q : Int32 × pH), r37 x1 x2 x3 x4 h = some q → px_G (d + 4 + 1) (pX_RX11, prog_13_method_100_code, 5, (some .int)) 37 [some (.inr (.inl 51)), some (.inl x1), some (.inl x2), some (.inl x3), some (.inl x4)] [] h q) : ∀ (x1 : Int32) (x2 : Int32) (x4 : Int32) (h : pH) (q : Int32 × pH), mo_bargain_99 r37 x1 x2 x4 h = some q → px_G (d + 4 + 1) (pX_RX11, prog_13_method_100_code, 5, (some .int)) 99 [some (.inr (.inl 51)), some (.inl x1), some (.inl x2), none, some (.inl x4)] [] h q := by
  intro x1 x2 x4 h q e
  exact px_blk_ok (d := d + 4) (M := (pX_RX11, prog_13_method_100_code, 5, (some .int))) (C := mo_bargain_orc) (code := mo_bargain_code) (ld := [102]) (kl := [(102, fun ls st h => px_if (px_fit [61, 1, 1, 1, 1] ls && px_fits [] st) (mo_bargain_102 r37 (px_gi ls 1) (px_gi ls 2) (px_gi ls 3) (px_gi ls 4) h))]) (mo_bargain_orc_ok) pX_ok_RX11 mo_bargain_code_ok (px_k1 (px_ko (ts := [61, 1, 1, 1, 1]) (ss := []) fun ls st h q e => mo_bargain_102_ok hr37 _ _ _ _ _ _ e) px_k0) 88 99 _ _ h q e
set_option maxRecDepth 200000 in
theorem mo_bargain_37_ok {d : Nat} : ∀ (n : Nat) (x1 : Int32) (x2 : Int32) (x3 : Int32) (x4 : Int32) (h : pH) (q : Int32 × pH), mo_bargain_37 n x1 x2 x3 x4 h = some q → px_G (d + 4 + 1) (pX_RX11, prog_13_method_100_code, 5, (some .int)) 37 [some (.inr (.inl 51)), some (.inl x1), some (.inl x2), some (.inl x3), some (.inl x4)] [] h q := by
  intro n
  induction n with
  | zero =>
    intro x1 x2 x3 x4 h q e
    cases e
  | succ n ih =>
    intro x1 x2 x3 x4 h q e
    exact px_blk_ok (d := d + 4) (M := (pX_RX11, prog_13_method_100_code, 5, (some .int))) (C := mo_bargain_orc) (code := mo_bargain_code) (ld := [99, 102]) (kl := [(99, fun ls st h => px_if (px_fit [61, 1, 1, 0, 1] ls && px_fits [] st) (mo_bargain_99 (mo_bargain_37 n) (px_gi ls 1) (px_gi ls 2) (px_gi ls 4) h)), (102, fun ls st h => px_if (px_fit [61, 1, 1, 1, 1] ls && px_fits [] st) (mo_bargain_102 (mo_bargain_37 n) (px_gi ls 1) (px_gi ls 2) (px_gi ls 3) (px_gi ls 4) h))]) (mo_bargain_orc_ok) pX_ok_RX11 mo_bargain_code_ok (px_k1 (px_ko (ts := [61, 1, 1, 0, 1]) (ss := []) fun ls st h q e => mo_bargain_99_ok ih _ _ _ _ _ e) (px_k1 (px_ko (ts := [61, 1, 1, 1, 1]) (ss := []) fun ls st h q e => mo_bargain_102_ok ih _ _ _ _ _ _ e) px_k0)) 88 37 _ _ h q e
set_option maxRecDepth 200000 in
theorem mo_bargain_ok {d : Nat} {x1 : Int32} {x2 : Int32} {h : pH} {q : Int32 × pH} (e : mo_bargain x1 x2 h = some q) : px_Con (d + 5) 272 [.inr (.inl 51), .inl x1, .inl x2] h q :=
  px_con (X := pX_RX11) (b := prog_13_method_100_code) (nL := 5) (rt := (some .int)) rfl rfl (Nat.le_of_ble_eq_true rfl) rfl (px_blk_ok (d := d + 4) (M := (pX_RX11, prog_13_method_100_code, 5, (some .int))) (C := mo_bargain_orc) (code := mo_bargain_code) (ld := [37, 29]) (kl := [(37, fun ls st h => px_if (px_fit [61, 1, 1, 1, 1] ls && px_fits [] st) (mo_bargain_37 px_F (px_gi ls 1) (px_gi ls 2) (px_gi ls 3) (px_gi ls 4) h)), (29, fun ls st h => px_if (px_fit [0, 0, 0, 0, 0] ls && px_fits [] st) (mo_bargain_29 h))]) (mo_bargain_orc_ok) pX_ok_RX11 mo_bargain_code_ok (px_k1 (px_ko (ts := [61, 1, 1, 1, 1]) (ss := []) fun ls st h q e => mo_bargain_37_ok _ _ _ _ _ _ _ e) (px_k1 (px_ko (ts := [0, 0, 0, 0, 0]) (ss := []) fun ls st h q e => mo_bargain_29_ok _ _ e) px_k0)) 88 0 _ _ _ q e)
/-! WordsUnsaidModel.draw(I)I -/
noncomputable def mo_draw (x1 : Int32) (h : pH) : pR :=
  let h1 := px_w h 51 58 (((h 51 58) * (px_k 1103515245)) + (px_c 12345))
  if x1 = 0 then none else
  some ((px_ush (h1 51 58) (px_c 16)) - (px_ush (h1 51 58) (px_c 16)) / x1 * x1, h1)
def mo_draw_code : pCode := [(0, .aload_n 0, 1), (1, .aload_n 0, 1), (2, .getfield 449, 3), (5, .ldc_w 452, 3), (8, .imul, 1), (9, .sipush (12345), 3), (12, .iadd, 1), (13, .putfield 449, 3), (16, .aload_n 0, 1), (17, .getfield 449, 3), (20, .bipush (16), 2), (22, .iushr, 1), (23, .iload_n 1, 1), (24, .irem, 1), (25, .ireturn, 1)]
set_option maxRecDepth 200000 in
theorem mo_draw_code_ok : px_code prog_13_method_101_code mo_draw_code = true := by decide +kernel
noncomputable def mo_draw_orc : pC := px_orc []
theorem mo_draw_orc_ok {d : Nat} : px_Or (d + 0) (mo_draw_orc) := px_orc_ok (by
  exact px_o0)
set_option maxRecDepth 200000 in
theorem mo_draw_ok {d : Nat} {x1 : Int32} {h : pH} {q : Int32 × pH} (e : mo_draw x1 h = some q) : px_Con (d + 1) 273 [.inr (.inl 51), .inl x1] h q :=
  px_con (X := pX_RX11) (b := prog_13_method_101_code) (nL := 2) (rt := (some .int)) rfl rfl (Nat.le_of_ble_eq_true rfl) rfl (px_blk_ok (d := d + 0) (M := (pX_RX11, prog_13_method_101_code, 2, (some .int))) (C := mo_draw_orc) (code := mo_draw_code) (ld := []) (kl := []) (mo_draw_orc_ok) pX_ok_RX11 mo_draw_code_ok (px_k0) 20 0 _ _ _ q e)
/-! WordsUnsaidModel.years(II)I -/
noncomputable def mo_years_192 (r52 : Int32 → Int32 → Int32 → Int32 → pH → pR) (x2 : Int32) (x3 : Int32) (x4 : Int32) (x5 : Int32) (h : pH) : pR :=
  r52 x2 x3 x4 (x5 + px_c 1) h
noncomputable def mo_years_127 (r52 : Int32 → Int32 → Int32 → Int32 → pH → pR) (x2 : Int32) (x3 : Int32) (x4 : Int32) (x5 : Int32) (x6 : Int32) (x8 : Int32) (h : pH) : pR :=
  let h1 := px_w h 51 30 (px_c 1)
  px_bind (mo_wordsIn 78 h1) fun z2 h3 =>
  px_if (px_ok 0 78 x6) <|
  px_bind (mo_distance (h3 78 x6.toNatClampNeg) x8 h3) fun z4 h5 =>
  if z4 ≤ z2 then
    px_if (px_ok 0 78 x6) <|
    px_bind (mo_goes 78 ((px_c 1) <<< (x6 &&& 31)) (h5 78 x6.toNatClampNeg) x8 h5) fun z6 h7 =>
    if z6 = 0 then
      mo_years_192 r52 x2 (x3 + px_c 1) x4 x5 h7
    else
      mo_years_192 r52 x2 x3 (x4 + px_c 1) x5 h7
  else
    mo_years_192 r52 x2 x3 x4 x5 h5
noncomputable def mo_years_92 (r52 : Int32 → Int32 → Int32 → Int32 → pH → pR) (x2 : Int32) (x3 : Int32) (x4 : Int32) (x5 : Int32) (x6 : Int32) (x7 : Int32) (s0 : Int32) (h : pH) : pR :=
  let h1 := px_w h 51 30 (px_c 0)
  px_bind (mo_canLine 78 x7 ((px_c 1) <<< (x6 &&& 31)) h1) fun z2 h3 =>
  if z2 = 0 then
    mo_years_192 r52 x2 x3 x4 x5 h3
  else
    px_if (px_ok 0 65 (px_c 0)) <|
    let h4 := px_w h3 65 (px_c 0).toNatClampNeg x7
    mo_years_127 r52 x2 x3 x4 x5 x6 s0 h4
noncomputable def mo_years_52 : Nat → Int32 → Int32 → Int32 → Int32 → pH → pR
  | 0, _, _, _, _, _ => none
  | n + 1, x2, x3, x4, x5, h =>
    if x2 ≤ x5 then
      let h1 := px_w h 51 13 (px_c 0)
      px_bind (mo_tell x4 h1) fun _ h3 =>
      px_bind (mo_saidOnes 78 h3) fun z4 h5 =>
      px_bind (mo_tell z4 h5) fun _ h7 =>
      some (x3, h7)
    else
      px_bind (mo_draw (h 51 4) h) fun z8 h9 =>
      px_bind (mo_draw (px_c 10) h9) fun z10 h11 =>
      px_if (px_ok 0 78 z8) <|
      if (h11 78 z8.toNatClampNeg) = (px_c 1) then
        mo_years_92 (mo_years_52 n) x2 x3 x4 x5 z8 z10 (px_c 0) h11
      else
        mo_years_92 (mo_years_52 n) x2 x3 x4 x5 z8 z10 (px_c 1) h11
noncomputable def mo_years_32 (x2 : Int32) (h : pH) : pR :=
  px_bind (mo_lay 52 78 (px_c 0) h) fun _ h2 =>
  mo_years_52 px_F x2 (px_c 0) (px_c 0) (px_c 0) h2
noncomputable def mo_years (x1 : Int32) (x2 : Int32) (h : pH) : pR :=
  let h1 := px_w h 51 14 (px_c 0)
  px_bind (mo_in x2 (px_c 1) (px_c 40) h1) fun z2 h3 =>
  if z2 = 0 then
    some (px_c (-1), h3)
  else
    if (h3 51 4) = 0 then
      some (px_c (-2), h3)
    else
      let h4 := px_w h3 51 58 x1
      mo_years_32 x2 h4
def mo_years_code : pCode := [(0, .aload_n 0, 1), (1, .iconst 0, 1), (2, .putfield 106, 3), (5, .iload_n 2, 1), (6, .iconst 1, 1), (7, .bipush (40), 2), (9, .invokestatic 115, 3), (12, .ifCond .ne (5), 3), (15, .iconst (-1), 1), (16, .ireturn, 1), (17, .aload_n 0, 1), (18, .getfield 112, 3), (21, .ifCond .ne (6), 3), (24, .bipush (-2), 2), (26, .ireturn, 1), (27, .aload_n 0, 1), (28, .iload_n 1, 1), (29, .putfield 449, 3), (32, .aload_n 0, 1), (33, .getfield 9, 3), (36, .aload_n 0, 1), (37, .getfield 94, 3), (40, .iconst 0, 1), (41, .invokestatic 295, 3), (44, .iconst 0, 1), (45, .istore_n 3, 1), (46, .iconst 0, 1), (47, .istore 4, 2), (49, .iconst 0, 1), (50, .istore 5, 2), (52, .iload 5, 2), (54, .iload_n 2, 1), (55, .if_icmp .ge (143), 3), (58, .aload_n 0, 1), (59, .aload_n 0, 1), (60, .getfield 112, 3), (63, .invokevirtual 453, 3), (66, .istore 6, 2), (68, .aload_n 0, 1), (69, .bipush (10), 2), (71, .invokevirtual 453, 3), (74, .istore 7, 2), (76, .aload_n 0, 1), (77, .getfield 94, 3), (80, .iload 6, 2), (82, .iaload, 1), (83, .iconst 1, 1), (84, .if_icmp .ne (7), 3), (87, .iconst 0, 1), (88, .goto (4), 3), (91, .iconst 1, 1), (92, .istore 8, 2), (94, .aload_n 0, 1), (95, .iconst 0, 1), (96, .putfield 292, 3), (99, .aload_n 0, 1), (100, .aload_n 0, 1), (101, .getfield 94, 3), (104, .iload 7, 2), (106, .iconst 1, 1), (107, .iload 6, 2), (109, .ishl, 1), (110, .invokevirtual 305, 3), (113, .ifCond .ne (6), 3), (116, .goto (76), 3), (119, .aload_n 0, 1), (120, .getfield 54, 3), (123, .iconst 0, 1), (124, .iload 7, 2), (126, .iastore, 1), (127, .aload_n 0, 1), (128, .iconst 1, 1), (129, .putfield 292, 3), (132, .aload_n 0, 1), (133, .aload_n 0, 1), (134, .getfield 94, 3), (137, .invokevirtual 309, 3), (140, .aload_n 0, 1), (141, .aload_n 0, 1), (142, .getfield 94, 3), (145, .iload 6, 2), (147, .iaload, 1), (148, .iload 8, 2), (150, .invokevirtual 268, 3), (153, .if_icmp .ge (6), 3), (156, .goto (36), 3), (159, .aload_n 0, 1), (160, .aload_n 0, 1), (161, .getfield 94, 3), (164, .iconst 1, 1), (165, .iload 6, 2), (167, .ishl, 1), (168, .aload_n 0, 1), (169, .getfield 94, 3), (172, .iload 6, 2), (174, .iaload, 1), (175, .iload 8, 2), (177, .invokevirtual 326, 3), (180, .ifCond .eq (9), 3), (183, .iinc 4 (1), 3), (186, .goto (6), 3), (189, .iinc 3 (1), 3), (192, .iinc 5 (1), 3), (195, .goto (-143), 3), (198, .aload_n 0, 1), (199, .iconst 0, 1), (200, .putfield 109, 3), (203, .aload_n 0, 1), (204, .iload 4, 2), (206, .invokevirtual 312, 3), (209, .aload_n 0, 1), (210, .aload_n 0, 1), (211, .aload_n 0, 1), (212, .getfield 94, 3), (215, .invokevirtual 235, 3), (218, .invokevirtual 312, 3), (221, .iload_n 3, 1), (222, .ireturn, 1)]
set_option maxRecDepth 200000 in
theorem mo_years_code_ok : px_code prog_13_method_102_code mo_years_code = true := by decide +kernel
noncomputable def mo_years_orc : pC := px_orc [(222, fun a h => match a with
    | [.inr (.inl 51), .inr (.inl v1)] => mo_wordsIn v1 h
    | _ => none), (218, fun a h => match a with
    | [.inr (.inl 51), .inl v1, .inl v2] => mo_distance v1 v2 h
    | _ => none), (219, fun a h => match a with
    | [.inr (.inl 51), .inr (.inl v1), .inl v2, .inl v3, .inl v4] => mo_goes v1 v2 v3 v4 h
    | _ => none), (226, fun a h => match a with
    | [.inr (.inl 51), .inr (.inl v1), .inl v2, .inl v3] => mo_canLine v1 v2 v3 h
    | _ => none), (178, fun a h => match a with
    | [.inr (.inl 51), .inl v1] => mo_tell v1 h
    | _ => none), (210, fun a h => match a with
    | [.inr (.inl 51), .inr (.inl v1)] => mo_saidOnes v1 h
    | _ => none), (273, fun a h => match a with
    | [.inr (.inl 51), .inl v1] => mo_draw v1 h
    | _ => none), (223, fun a h => match a with
    | [.inr (.inl v0), .inr (.inl v1), .inl v2] => mo_lay v0 v1 v2 h
    | _ => none), (175, fun a h => match a with
    | [.inl v0, .inl v1, .inl v2] => mo_in v0 v1 v2 h
    | _ => none)]
theorem mo_years_orc_ok {d : Nat} : px_Or (d + 106) (mo_years_orc) := px_orc_ok (by
  refine px_o1 (fun a h q e => by
    dsimp only at e
    split at e
    · exact mo_wordsIn_ok (d := d + 105) e
    · cases e) ?_
  refine px_o1 (fun a h q e => by
    dsimp only at e
    split at e
    · exact mo_distance_ok (d := d + 104) e
    · cases e) ?_
  refine px_o1 (fun a h q e => by
    dsimp only at e
    split at e
    · exact mo_goes_ok (d := d + 0) e
    · cases e) ?_
  refine px_o1 (fun a h q e => by
    dsimp only at e
    split at e
    · exact mo_canLine_ok (d := d + 103) e
    · cases e) ?_
  refine px_o1 (fun a h q e => by
    dsimp only at e
    split at e
    · exact mo_tell_ok (d := d + 105) e
    · cases e) ?_
  refine px_o1 (fun a h q e => by
    dsimp only at e
    split at e
    · exact mo_saidOnes_ok (d := d + 105) e
    · cases e) ?_
  refine px_o1 (fun a h q e => by
    dsimp only at e
    split at e
    · exact mo_draw_ok (d := d + 105) e
    · cases e) ?_
  refine px_o1 (fun a h q e => by
    dsimp only at e
    split at e
    · exact mo_lay_ok (d := d + 105) e
    · cases e) ?_
  refine px_o1 (fun a h q e => by
    dsimp only at e
    split at e
    · exact mo_in_ok (d := d + 105) e
    · cases e) ?_
  exact px_o0)
set_option maxRecDepth 200000 in
theorem mo_years_192_ok {d : Nat} {r52 : Int32 → Int32 → Int32 → Int32 → pH → pR} (hr52 : ∀ (x2 : Int32) (x3 : Int32) (x4 : Int32) (x5 : Int32) (h : pH) (q : Int32 × pH), r52 x2 x3 x4 x5 h = some q → px_G (d + 106 + 1) (pX_RX11, prog_13_method_102_code, 9, (some .int)) 52 [some (.inr (.inl 51)), none, some (.inl x2), some (.inl x3), some (.inl x4), some (.inl x5), none, none, none] [] h q) : ∀ (x2 : Int32) (x3 : Int32) (x4 : Int32) (x5 : Int32) (h : pH) (q : Int32 × pH), mo_years_192 r52 x2 x3 x4 x5 h = some q → px_G (d + 106 + 1) (pX_RX11, prog_13_method_102_code, 9, (some .int)) 192 [some (.inr (.inl 51)), none, some (.inl x2), some (.inl x3), some (.inl x4), some (.inl x5), none, none, none] [] h q := by
  intro x2 x3 x4 x5 h q e
  exact px_blk_ok (d := d + 106) (M := (pX_RX11, prog_13_method_102_code, 9, (some .int))) (C := mo_years_orc) (code := mo_years_code) (ld := [52]) (kl := [(52, fun ls st h => px_if (px_fit [61, 0, 1, 1, 1, 1, 0, 0, 0] ls && px_fits [] st) (r52 (px_gi ls 2) (px_gi ls 3) (px_gi ls 4) (px_gi ls 5) h))]) (mo_years_orc_ok) pX_ok_RX11 mo_years_code_ok (px_k1 (px_ko (ts := [61, 0, 1, 1, 1, 1, 0, 0, 0]) (ss := []) fun ls st h q e => hr52 _ _ _ _ _ _ e) px_k0) 123 192 _ _ h q e
set_option maxRecDepth 200000 in
theorem mo_years_127_ok {d : Nat} {r52 : Int32 → Int32 → Int32 → Int32 → pH → pR} (hr52 : ∀ (x2 : Int32) (x3 : Int32) (x4 : Int32) (x5 : Int32) (h : pH) (q : Int32 × pH), r52 x2 x3 x4 x5 h = some q → px_G (d + 106 + 1) (pX_RX11, prog_13_method_102_code, 9, (some .int)) 52 [some (.inr (.inl 51)), none, some (.inl x2), some (.inl x3), some (.inl x4), some (.inl x5), none, none, none] [] h q) : ∀ (x2 : Int32) (x3 : Int32) (x4 : Int32) (x5 : Int32) (x6 : Int32) (x8 : Int32) (h : pH) (q : Int32 × pH), mo_years_127 r52 x2 x3 x4 x5 x6 x8 h = some q → px_G (d + 106 + 1) (pX_RX11, prog_13_method_102_code, 9, (some .int)) 127 [some (.inr (.inl 51)), none, some (.inl x2), some (.inl x3), some (.inl x4), some (.inl x5), some (.inl x6), none, some (.inl x8)] [] h q := by
  intro x2 x3 x4 x5 x6 x8 h q e
  exact px_blk_ok (d := d + 106) (M := (pX_RX11, prog_13_method_102_code, 9, (some .int))) (C := mo_years_orc) (code := mo_years_code) (ld := [192]) (kl := [(192, fun ls st h => px_if (px_fit [61, 0, 1, 1, 1, 1, 0, 0, 0] ls && px_fits [] st) (mo_years_192 r52 (px_gi ls 2) (px_gi ls 3) (px_gi ls 4) (px_gi ls 5) h))]) (mo_years_orc_ok) pX_ok_RX11 mo_years_code_ok (px_k1 (px_ko (ts := [61, 0, 1, 1, 1, 1, 0, 0, 0]) (ss := []) fun ls st h q e => mo_years_192_ok hr52 _ _ _ _ _ _ e) px_k0) 123 127 _ _ h q e
set_option maxRecDepth 200000 in
theorem mo_years_92_ok {d : Nat} {r52 : Int32 → Int32 → Int32 → Int32 → pH → pR} (hr52 : ∀ (x2 : Int32) (x3 : Int32) (x4 : Int32) (x5 : Int32) (h : pH) (q : Int32 × pH), r52 x2 x3 x4 x5 h = some q → px_G (d + 106 + 1) (pX_RX11, prog_13_method_102_code, 9, (some .int)) 52 [some (.inr (.inl 51)), none, some (.inl x2), some (.inl x3), some (.inl x4), some (.inl x5), none, none, none] [] h q) : ∀ (x2 : Int32) (x3 : Int32) (x4 : Int32) (x5 : Int32) (x6 : Int32) (x7 : Int32) (s0 : Int32) (h : pH) (q : Int32 × pH), mo_years_92 r52 x2 x3 x4 x5 x6 x7 s0 h = some q → px_G (d + 106 + 1) (pX_RX11, prog_13_method_102_code, 9, (some .int)) 92 [some (.inr (.inl 51)), none, some (.inl x2), some (.inl x3), some (.inl x4), some (.inl x5), some (.inl x6), some (.inl x7), none] [.inl s0] h q := by
  intro x2 x3 x4 x5 x6 x7 s0 h q e
  exact px_blk_ok (d := d + 106) (M := (pX_RX11, prog_13_method_102_code, 9, (some .int))) (C := mo_years_orc) (code := mo_years_code) (ld := [127, 192]) (kl := [(127, fun ls st h => px_if (px_fit [61, 0, 1, 1, 1, 1, 1, 0, 1] ls && px_fits [] st) (mo_years_127 r52 (px_gi ls 2) (px_gi ls 3) (px_gi ls 4) (px_gi ls 5) (px_gi ls 6) (px_gi ls 8) h)), (192, fun ls st h => px_if (px_fit [61, 0, 1, 1, 1, 1, 0, 0, 0] ls && px_fits [] st) (mo_years_192 r52 (px_gi ls 2) (px_gi ls 3) (px_gi ls 4) (px_gi ls 5) h))]) (mo_years_orc_ok) pX_ok_RX11 mo_years_code_ok (px_k1 (px_ko (ts := [61, 0, 1, 1, 1, 1, 1, 0, 1]) (ss := []) fun ls st h q e => mo_years_127_ok hr52 _ _ _ _ _ _ _ _ e) (px_k1 (px_ko (ts := [61, 0, 1, 1, 1, 1, 0, 0, 0]) (ss := []) fun ls st h q e => mo_years_192_ok hr52 _ _ _ _ _ _ e) px_k0)) 123 92 _ _ h q e
set_option maxRecDepth 200000 in
theorem mo_years_52_ok {d : Nat} : ∀ (n : Nat) (x2 : Int32) (x3 : Int32) (x4 : Int32) (x5 : Int32) (h : pH) (q : Int32 × pH), mo_years_52 n x2 x3 x4 x5 h = some q → px_G (d + 106 + 1) (pX_RX11, prog_13_method_102_code, 9, (some .int)) 52 [some (.inr (.inl 51)), none, some (.inl x2), some (.inl x3), some (.inl x4), some (.inl x5), none, none, none] [] h q := by
  intro n
  induction n with
  | zero =>
    intro x2 x3 x4 x5 h q e
    cases e
  | succ n ih =>
    intro x2 x3 x4 x5 h q e
    exact px_blk_ok (d := d + 106) (M := (pX_RX11, prog_13_method_102_code, 9, (some .int))) (C := mo_years_orc) (code := mo_years_code) (ld := [92]) (kl := [(92, fun ls st h => px_if (px_fit [61, 0, 1, 1, 1, 1, 1, 1, 0] ls && px_fits [1] st) (mo_years_92 (mo_years_52 n) (px_gi ls 2) (px_gi ls 3) (px_gi ls 4) (px_gi ls 5) (px_gi ls 6) (px_gi ls 7) (px_si st 0) h))]) (mo_years_orc_ok) pX_ok_RX11 mo_years_code_ok (px_k1 (px_ko (ts := [61, 0, 1, 1, 1, 1, 1, 1, 0]) (ss := [1]) fun ls st h q e => mo_years_92_ok ih _ _ _ _ _ _ _ _ _ e) px_k0) 123 52 _ _ h q e
set_option maxRecDepth 200000 in
theorem mo_years_32_ok {d : Nat} : ∀ (x2 : Int32) (h : pH) (q : Int32 × pH), mo_years_32 x2 h = some q → px_G (d + 106 + 1) (pX_RX11, prog_13_method_102_code, 9, (some .int)) 32 [some (.inr (.inl 51)), none, some (.inl x2), none, none, none, none, none, none] [] h q := by
  intro x2 h q e
  exact px_blk_ok (d := d + 106) (M := (pX_RX11, prog_13_method_102_code, 9, (some .int))) (C := mo_years_orc) (code := mo_years_code) (ld := [52]) (kl := [(52, fun ls st h => px_if (px_fit [61, 0, 1, 1, 1, 1, 0, 0, 0] ls && px_fits [] st) (mo_years_52 px_F (px_gi ls 2) (px_gi ls 3) (px_gi ls 4) (px_gi ls 5) h))]) (mo_years_orc_ok) pX_ok_RX11 mo_years_code_ok (px_k1 (px_ko (ts := [61, 0, 1, 1, 1, 1, 0, 0, 0]) (ss := []) fun ls st h q e => mo_years_52_ok _ _ _ _ _ _ _ e) px_k0) 123 32 _ _ h q e
set_option maxRecDepth 200000 in
theorem mo_years_ok {d : Nat} {x1 : Int32} {x2 : Int32} {h : pH} {q : Int32 × pH} (e : mo_years x1 x2 h = some q) : px_Con (d + 107) 274 [.inr (.inl 51), .inl x1, .inl x2] h q :=
  px_con (X := pX_RX11) (b := prog_13_method_102_code) (nL := 9) (rt := (some .int)) rfl rfl (Nat.le_of_ble_eq_true rfl) rfl (px_blk_ok (d := d + 106) (M := (pX_RX11, prog_13_method_102_code, 9, (some .int))) (C := mo_years_orc) (code := mo_years_code) (ld := [32]) (kl := [(32, fun ls st h => px_if (px_fit [61, 0, 1, 0, 0, 0, 0, 0, 0] ls && px_fits [] st) (mo_years_32 (px_gi ls 2) h))]) (mo_years_orc_ok) pX_ok_RX11 mo_years_code_ok (px_k1 (px_ko (ts := [61, 0, 1, 0, 0, 0, 0, 0, 0]) (ss := []) fun ls st h q e => mo_years_32_ok _ _ _ e) px_k0) 123 0 _ _ _ q e)
/-! WordsUnsaidModel.keep(I)Z -/
noncomputable def mo_keep_23 (x1 : Int32) (h : pH) : pR :=
  px_if (px_ok 0 81 x1) <|
  let h1 := px_w h 81 x1.toNatClampNeg (h 51 60)
  px_bind (mo_lay 52 79 ((px_c 52) * x1) h1) fun _ h3 =>
  px_bz (px_c 1) h3
noncomputable def mo_keep (x1 : Int32) (h : pH) : pR :=
  let h1 := px_w h 51 14 (px_c 0)
  px_bind (mo_in x1 (px_c 0) (px_c 1) h1) fun z2 h3 =>
  if z2 = 0 then
    px_bz (px_c 0) h3
  else
    px_if (px_ok 3 80 x1) <|
    let h4 := px_w h3 80 x1.toNatClampNeg (px_nz (px_c 1))
    mo_keep_23 x1 h4
def mo_keep_code : pCode := [(0, .aload_n 0, 1), (1, .iconst 0, 1), (2, .putfield 106, 3), (5, .iload_n 1, 1), (6, .iconst 0, 1), (7, .iconst 1, 1), (8, .invokestatic 115, 3), (11, .ifCond .ne (5), 3), (14, .iconst 0, 1), (15, .ireturn, 1), (16, .aload_n 0, 1), (17, .getfield 100, 3), (20, .iload_n 1, 1), (21, .iconst 1, 1), (22, .bastore, 1), (23, .aload_n 0, 1), (24, .getfield 103, 3), (27, .iload_n 1, 1), (28, .aload_n 0, 1), (29, .getfield 180, 3), (32, .iastore, 1), (33, .aload_n 0, 1), (34, .getfield 9, 3), (37, .aload_n 0, 1), (38, .getfield 97, 3), (41, .bipush (52), 2), (43, .iload_n 1, 1), (44, .imul, 1), (45, .invokestatic 295, 3), (48, .iconst 1, 1), (49, .ireturn, 1)]
set_option maxRecDepth 200000 in
theorem mo_keep_code_ok : px_code prog_13_method_103_code mo_keep_code = true := by decide +kernel
noncomputable def mo_keep_orc : pC := px_orc [(223, fun a h => match a with
    | [.inr (.inl v0), .inr (.inl v1), .inl v2] => mo_lay v0 v1 v2 h
    | _ => none), (175, fun a h => match a with
    | [.inl v0, .inl v1, .inl v2] => mo_in v0 v1 v2 h
    | _ => none)]
theorem mo_keep_orc_ok {d : Nat} : px_Or (d + 1) (mo_keep_orc) := px_orc_ok (by
  refine px_o1 (fun a h q e => by
    dsimp only at e
    split at e
    · exact mo_lay_ok (d := d + 0) e
    · cases e) ?_
  refine px_o1 (fun a h q e => by
    dsimp only at e
    split at e
    · exact mo_in_ok (d := d + 0) e
    · cases e) ?_
  exact px_o0)
set_option maxRecDepth 200000 in
theorem mo_keep_23_ok {d : Nat} : ∀ (x1 : Int32) (h : pH) (q : Int32 × pH), mo_keep_23 x1 h = some q → px_G (d + 1 + 1) (pX_RX11, prog_13_method_103_code, 2, (some .boolean)) 23 [some (.inr (.inl 51)), some (.inl x1)] [] h q := by
  intro x1 h q e
  exact px_blk_ok (d := d + 1) (M := (pX_RX11, prog_13_method_103_code, 2, (some .boolean))) (C := mo_keep_orc) (code := mo_keep_code) (ld := []) (kl := []) (mo_keep_orc_ok) pX_ok_RX11 mo_keep_code_ok (px_k0) 36 23 _ _ h q e
set_option maxRecDepth 200000 in
theorem mo_keep_ok {d : Nat} {x1 : Int32} {h : pH} {q : Int32 × pH} (e : mo_keep x1 h = some q) : px_Con (d + 2) 275 [.inr (.inl 51), .inl x1] h q :=
  px_con (X := pX_RX11) (b := prog_13_method_103_code) (nL := 2) (rt := (some .boolean)) rfl rfl (Nat.le_of_ble_eq_true rfl) rfl (px_blk_ok (d := d + 1) (M := (pX_RX11, prog_13_method_103_code, 2, (some .boolean))) (C := mo_keep_orc) (code := mo_keep_code) (ld := [23]) (kl := [(23, fun ls st h => px_if (px_fit [61, 1] ls && px_fits [] st) (mo_keep_23 (px_gi ls 1) h))]) (mo_keep_orc_ok) pX_ok_RX11 mo_keep_code_ok (px_k1 (px_ko (ts := [61, 1]) (ss := []) fun ls st h q e => mo_keep_23_ok _ _ _ e) px_k0) 36 0 _ _ _ q e)
/-! WordsUnsaidModel.again(I)Z -/
noncomputable def mo_again_36 (h : pH) : pR :=
  px_bz (px_c 0) h
noncomputable def mo_again_74 (h : pH) : pR :=
  px_bz (px_c 1) h
noncomputable def mo_again_40 : Nat → Int32 → Int32 → pH → pR
  | 0, _, _, _ => none
  | n + 1, x1, x2, h =>
    if (px_c 52) ≤ x2 then
      let h1 := px_w h 51 35 (px_c 0)
      mo_again_74 h1
    else
      px_if (px_ok 0 79 (((px_c 52) * x1) + x2)) <|
      px_if (px_ok 0 52 x2) <|
      let h2 := px_w h 52 x2.toNatClampNeg (h 79 (((px_c 52) * x1) + x2).toNatClampNeg)
      mo_again_40 n x1 (x2 + px_c 1) h2
noncomputable def mo_again (x1 : Int32) (h : pH) : pR :=
  let h1 := px_w h 51 14 (px_c 0)
  px_bind (mo_in x1 (px_c 0) (px_c 1) h1) fun z2 h3 =>
  if z2 = 0 then
    mo_again_36 h3
  else
    px_if (px_ok 1 80 x1 || px_ok 3 80 x1) <|
    if (h3 80 x1.toNatClampNeg) = 0 then
      mo_again_36 h3
    else
      px_if (px_ok 0 81 x1) <|
      if (h3 81 x1.toNatClampNeg) = (h3 51 60) then
        mo_again_40 px_F x1 (px_c 0) h3
      else
        mo_again_36 h3
def mo_again_code : pCode := [(0, .aload_n 0, 1), (1, .iconst 0, 1), (2, .putfield 106, 3), (5, .iload_n 1, 1), (6, .iconst 0, 1), (7, .iconst 1, 1), (8, .invokestatic 115, 3), (11, .ifCond .eq (25), 3), (14, .aload_n 0, 1), (15, .getfield 100, 3), (18, .iload_n 1, 1), (19, .baload, 1), (20, .ifCond .eq (16), 3), (23, .aload_n 0, 1), (24, .getfield 103, 3), (27, .iload_n 1, 1), (28, .iaload, 1), (29, .aload_n 0, 1), (30, .getfield 180, 3), (33, .if_icmp .eq (5), 3), (36, .iconst 0, 1), (37, .ireturn, 1), (38, .iconst 0, 1), (39, .istore_n 2, 1), (40, .iload_n 2, 1), (41, .bipush (52), 2), (43, .if_icmp .ge (26), 3), (46, .aload_n 0, 1), (47, .getfield 9, 3), (50, .iload_n 2, 1), (51, .aload_n 0, 1), (52, .getfield 97, 3), (55, .bipush (52), 2), (57, .iload_n 1, 1), (58, .imul, 1), (59, .iload_n 2, 1), (60, .iadd, 1), (61, .iaload, 1), (62, .iastore, 1), (63, .iinc 2 (1), 3), (66, .goto (-26), 3), (69, .aload_n 0, 1), (70, .iconst 0, 1), (71, .putfield 177, 3), (74, .iconst 1, 1), (75, .ireturn, 1)]
set_option maxRecDepth 200000 in
theorem mo_again_code_ok : px_code prog_13_method_104_code mo_again_code = true := by decide +kernel
noncomputable def mo_again_orc : pC := px_orc [(175, fun a h => match a with
    | [.inl v0, .inl v1, .inl v2] => mo_in v0 v1 v2 h
    | _ => none)]
theorem mo_again_orc_ok {d : Nat} : px_Or (d + 1) (mo_again_orc) := px_orc_ok (by
  refine px_o1 (fun a h q e => by
    dsimp only at e
    split at e
    · exact mo_in_ok (d := d + 0) e
    · cases e) ?_
  exact px_o0)
set_option maxRecDepth 200000 in
theorem mo_again_36_ok {d : Nat} : ∀ (h : pH) (q : Int32 × pH), mo_again_36 h = some q → px_G (d + 1 + 1) (pX_RX11, prog_13_method_104_code, 3, (some .boolean)) 36 [none, none, none] [] h q := by
  intro h q e
  exact px_blk_ok (d := d + 1) (M := (pX_RX11, prog_13_method_104_code, 3, (some .boolean))) (C := mo_again_orc) (code := mo_again_code) (ld := []) (kl := []) (mo_again_orc_ok) pX_ok_RX11 mo_again_code_ok (px_k0) 51 36 _ _ h q e
set_option maxRecDepth 200000 in
theorem mo_again_74_ok {d : Nat} : ∀ (h : pH) (q : Int32 × pH), mo_again_74 h = some q → px_G (d + 1 + 1) (pX_RX11, prog_13_method_104_code, 3, (some .boolean)) 74 [none, none, none] [] h q := by
  intro h q e
  exact px_blk_ok (d := d + 1) (M := (pX_RX11, prog_13_method_104_code, 3, (some .boolean))) (C := mo_again_orc) (code := mo_again_code) (ld := []) (kl := []) (mo_again_orc_ok) pX_ok_RX11 mo_again_code_ok (px_k0) 51 74 _ _ h q e
set_option maxRecDepth 200000 in
theorem mo_again_40_ok {d : Nat} : ∀ (n : Nat) (x1 : Int32) (x2 : Int32) (h : pH) (q : Int32 × pH), mo_again_40 n x1 x2 h = some q → px_G (d + 1 + 1) (pX_RX11, prog_13_method_104_code, 3, (some .boolean)) 40 [some (.inr (.inl 51)), some (.inl x1), some (.inl x2)] [] h q := by
  intro n
  induction n with
  | zero =>
    intro x1 x2 h q e
    cases e
  | succ n ih =>
    intro x1 x2 h q e
    exact px_blk_ok (d := d + 1) (M := (pX_RX11, prog_13_method_104_code, 3, (some .boolean))) (C := mo_again_orc) (code := mo_again_code) (ld := [40, 74]) (kl := [(40, fun ls st h => px_if (px_fit [61, 1, 1] ls && px_fits [] st) (mo_again_40 n (px_gi ls 1) (px_gi ls 2) h)), (74, fun ls st h => px_if (px_fit [0, 0, 0] ls && px_fits [] st) (mo_again_74 h))]) (mo_again_orc_ok) pX_ok_RX11 mo_again_code_ok (px_k1 (px_ko (ts := [61, 1, 1]) (ss := []) fun ls st h q e => ih _ _ _ _ e) (px_k1 (px_ko (ts := [0, 0, 0]) (ss := []) fun ls st h q e => mo_again_74_ok _ _ e) px_k0)) 51 40 _ _ h q e
set_option maxRecDepth 200000 in
theorem mo_again_ok {d : Nat} {x1 : Int32} {h : pH} {q : Int32 × pH} (e : mo_again x1 h = some q) : px_Con (d + 2) 276 [.inr (.inl 51), .inl x1] h q :=
  px_con (X := pX_RX11) (b := prog_13_method_104_code) (nL := 3) (rt := (some .boolean)) rfl rfl (Nat.le_of_ble_eq_true rfl) rfl (px_blk_ok (d := d + 1) (M := (pX_RX11, prog_13_method_104_code, 3, (some .boolean))) (C := mo_again_orc) (code := mo_again_code) (ld := [40, 36]) (kl := [(40, fun ls st h => px_if (px_fit [61, 1, 1] ls && px_fits [] st) (mo_again_40 px_F (px_gi ls 1) (px_gi ls 2) h)), (36, fun ls st h => px_if (px_fit [0, 0, 0] ls && px_fits [] st) (mo_again_36 h))]) (mo_again_orc_ok) pX_ok_RX11 mo_again_code_ok (px_k1 (px_ko (ts := [61, 1, 1]) (ss := []) fun ls st h q e => mo_again_40_ok _ _ _ _ _ e) (px_k1 (px_ko (ts := [0, 0, 0]) (ss := []) fun ls st h q e => mo_again_36_ok _ _ e) px_k0)) 51 0 _ _ _ q e)
/-! WordsUnsaidModel.count(I)I -/
noncomputable def mo_count (x1 : Int32) (h : pH) : pR :=
  let h1 := px_w h 51 14 (px_c 0)
  if x1 = px_c 0 then
    some (h1 51 4, h1)
  else
  if x1 = px_c 1 then
    some (h1 51 6, h1)
  else
  if x1 = px_c 2 then
    some (h1 51 2, h1)
  else
  if x1 = px_c 3 then
    some (h1 51 1, h1)
  else
  if x1 = px_c 4 then
    px_bind (mo_peopleAt (px_c 0) h1) fun z2 h3 =>
    some (z2, h3)
  else
  if x1 = px_c 5 then
    px_bind (mo_peopleAt (px_c 1) h1) fun z4 h5 =>
    some (z4, h5)
  else
  if x1 = px_c 6 then
    px_bind (mo_peopleAt (px_c 0) h1) fun z6 h7 =>
    px_bind (mo_peopleAt (px_c 1) h7) fun z8 h9 =>
    some (((((px_c 1) <<< ((h1 51 4) &&& 31)) - (px_c 1)) &&& (z6 ^^^ (px_c (-1)))) &&& (z8 ^^^ (px_c (-1))), h9)
  else
  if x1 = px_c 7 then
    px_bind (mo_saidOnes 52 h1) fun z10 h11 =>
    some (z10, h11)
  else
  if x1 = px_c 8 then
    px_bind (mo_leftIn 52 (((px_c 1) <<< ((h1 51 6) &&& 31)) - (px_c 1)) h1) fun z12 h13 =>
    some (z12, h13)
  else
  if x1 = px_c 9 then
    some (h1 51 35, h1)
  else
  if x1 = px_c 10 then
    some (h1 51 13, h1)
  else
  if x1 = px_c 11 then
    some (h1 51 11, h1)
  else
    some (px_c (-1), h1)
def mo_count_code : pCode := [(0, .aload_n 0, 1), (1, .iconst 0, 1), (2, .putfield 106, 3), (5, .iload_n 1, 1), (6, .tableswitch (159) (0) (11) #[62, 67, 72, 77, 82, 88, 94, 119, 128, 144, 149, 154], 62), (68, .aload_n 0, 1), (69, .getfield 112, 3), (72, .ireturn, 1), (73, .aload_n 0, 1), (74, .getfield 119, 3), (77, .ireturn, 1), (78, .aload_n 0, 1), (79, .getfield 126, 3), (82, .ireturn, 1), (83, .aload_n 0, 1), (84, .getfield 13, 3), (87, .ireturn, 1), (88, .aload_n 0, 1), (89, .iconst 0, 1), (90, .invokevirtual 334, 3), (93, .ireturn, 1), (94, .aload_n 0, 1), (95, .iconst 1, 1), (96, .invokevirtual 334, 3), (99, .ireturn, 1), (100, .iconst 1, 1), (101, .aload_n 0, 1), (102, .getfield 112, 3), (105, .ishl, 1), (106, .iconst 1, 1), (107, .isub, 1), (108, .aload_n 0, 1), (109, .iconst 0, 1), (110, .invokevirtual 334, 3), (113, .iconst (-1), 1), (114, .ixor, 1), (115, .iand, 1), (116, .aload_n 0, 1), (117, .iconst 1, 1), (118, .invokevirtual 334, 3), (121, .iconst (-1), 1), (122, .ixor, 1), (123, .iand, 1), (124, .ireturn, 1), (125, .aload_n 0, 1), (126, .aload_n 0, 1), (127, .getfield 9, 3), (130, .invokevirtual 235, 3), (133, .ireturn, 1), (134, .aload_n 0, 1), (135, .getfield 9, 3), (138, .iconst 1, 1), (139, .aload_n 0, 1), (140, .getfield 119, 3), (143, .ishl, 1), (144, .iconst 1, 1), (145, .isub, 1), (146, .invokestatic 248, 3), (149, .ireturn, 1), (150, .aload_n 0, 1), (151, .getfield 177, 3), (154, .ireturn, 1), (155, .aload_n 0, 1), (156, .getfield 109, 3), (159, .ireturn, 1), (160, .aload_n 0, 1), (161, .getfield 129, 3), (164, .ireturn, 1), (165, .iconst (-1), 1), (166, .ireturn, 1)]
set_option maxRecDepth 200000 in
theorem mo_count_code_ok : px_code prog_13_method_105_code mo_count_code = true := by decide +kernel
noncomputable def mo_count_orc : pC := px_orc [(207, fun a h => match a with
    | [.inr (.inl 51), .inl v1] => mo_peopleAt v1 h
    | _ => none), (210, fun a h => match a with
    | [.inr (.inl 51), .inr (.inl v1)] => mo_saidOnes v1 h
    | _ => none), (211, fun a h => match a with
    | [.inr (.inl v0), .inl v1] => mo_leftIn v0 v1 h
    | _ => none)]
theorem mo_count_orc_ok {d : Nat} : px_Or (d + 2) (mo_count_orc) := px_orc_ok (by
  refine px_o1 (fun a h q e => by
    dsimp only at e
    split at e
    · exact mo_peopleAt_ok (d := d + 1) e
    · cases e) ?_
  refine px_o1 (fun a h q e => by
    dsimp only at e
    split at e
    · exact mo_saidOnes_ok (d := d + 1) e
    · cases e) ?_
  refine px_o1 (fun a h q e => by
    dsimp only at e
    split at e
    · exact mo_leftIn_ok (d := d + 0) e
    · cases e) ?_
  exact px_o0)
set_option maxRecDepth 200000 in
theorem mo_count_ok {d : Nat} {x1 : Int32} {h : pH} {q : Int32 × pH} (e : mo_count x1 h = some q) : px_Con (d + 3) 277 [.inr (.inl 51), .inl x1] h q :=
  px_con (X := pX_RX11) (b := prog_13_method_105_code) (nL := 2) (rt := (some .int)) rfl rfl (Nat.le_of_ble_eq_true rfl) rfl (px_blk_ok (d := d + 2) (M := (pX_RX11, prog_13_method_105_code, 2, (some .int))) (C := mo_count_orc) (code := mo_count_code) (ld := []) (kl := []) (mo_count_orc_ok) pX_ok_RX11 mo_count_code_ok (px_k0) 75 0 _ _ _ q e)
/-! WordsUnsaidModel.row(I)I -/
noncomputable def mo_row_32 (s0 : Int32) (h : pH) : pR :=
  some (s0, h)
noncomputable def mo_row (x1 : Int32) (h : pH) : pR :=
  let h1 := px_w h 51 14 (px_c 0)
  px_bind (mo_in x1 (px_c 0) ((h1 51 13) - (px_c 1)) h1) fun z2 h3 =>
  if z2 = 0 then
    px_bind (mo_lost h3) fun z4 h5 =>
    mo_row_32 z4 h5
  else
    px_if (px_ok 0 59 x1) <|
    mo_row_32 (h3 59 x1.toNatClampNeg) h3
def mo_row_code : pCode := [(0, .aload_n 0, 1), (1, .iconst 0, 1), (2, .putfield 106, 3), (5, .iload_n 1, 1), (6, .iconst 0, 1), (7, .aload_n 0, 1), (8, .getfield 109, 3), (11, .iconst 1, 1), (12, .isub, 1), (13, .invokestatic 115, 3), (16, .ifCond .eq (12), 3), (19, .aload_n 0, 1), (20, .getfield 36, 3), (23, .iload_n 1, 1), (24, .iaload, 1), (25, .goto (7), 3), (28, .aload_n 0, 1), (29, .invokevirtual 239, 3), (32, .ireturn, 1)]
set_option maxRecDepth 200000 in
theorem mo_row_code_ok : px_code prog_13_method_106_code mo_row_code = true := by decide +kernel
noncomputable def mo_row_orc : pC := px_orc [(175, fun a h => match a with
    | [.inl v0, .inl v1, .inl v2] => mo_in v0 v1 v2 h
    | _ => none), (177, fun a h => match a with
    | [.inr (.inl 51)] => mo_lost h
    | _ => none)]
theorem mo_row_orc_ok {d : Nat} : px_Or (d + 1) (mo_row_orc) := px_orc_ok (by
  refine px_o1 (fun a h q e => by
    dsimp only at e
    split at e
    · exact mo_in_ok (d := d + 0) e
    · cases e) ?_
  refine px_o1 (fun a h q e => by
    dsimp only at e
    split at e
    · exact mo_lost_ok (d := d + 0) e
    · cases e) ?_
  exact px_o0)
set_option maxRecDepth 200000 in
theorem mo_row_32_ok {d : Nat} : ∀ (s0 : Int32) (h : pH) (q : Int32 × pH), mo_row_32 s0 h = some q → px_G (d + 1 + 1) (pX_RX11, prog_13_method_106_code, 2, (some .int)) 32 [none, none] [.inl s0] h q := by
  intro s0 h q e
  exact px_blk_ok (d := d + 1) (M := (pX_RX11, prog_13_method_106_code, 2, (some .int))) (C := mo_row_orc) (code := mo_row_code) (ld := []) (kl := []) (mo_row_orc_ok) pX_ok_RX11 mo_row_code_ok (px_k0) 24 32 _ _ h q e
set_option maxRecDepth 200000 in
theorem mo_row_ok {d : Nat} {x1 : Int32} {h : pH} {q : Int32 × pH} (e : mo_row x1 h = some q) : px_Con (d + 2) 278 [.inr (.inl 51), .inl x1] h q :=
  px_con (X := pX_RX11) (b := prog_13_method_106_code) (nL := 2) (rt := (some .int)) rfl rfl (Nat.le_of_ble_eq_true rfl) rfl (px_blk_ok (d := d + 1) (M := (pX_RX11, prog_13_method_106_code, 2, (some .int))) (C := mo_row_orc) (code := mo_row_code) (ld := [32]) (kl := [(32, fun ls st h => px_if (px_fit [0, 0] ls && px_fits [1] st) (mo_row_32 (px_si st 0) h))]) (mo_row_orc_ok) pX_ok_RX11 mo_row_code_ok (px_k1 (px_ko (ts := [0, 0]) (ss := [1]) fun ls st h q e => mo_row_32_ok _ _ _ e) px_k0) 24 0 _ _ _ q e)
