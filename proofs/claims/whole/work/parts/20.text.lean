/-! small ones, Text -/
/-! WordsUnsaid.at([II)I -/
def wu_at_17 (s0 : Int32) (h : pH) : pR :=
  some (s0, h)
def wu_at_16 (h : pH) : pR :=
  wu_at_17 (px_c 0) h
def wu_at (a0 : Nat) (x1 : Int32) (h : pH) : pR :=
  if x1 < 0 then
    wu_at_16 h
  else
    px_if (Nat.blt (px_tag a0) 4) <|
    if (nI (px_len a0)) ≤ x1 then
      wu_at_16 h
    else
      px_if (px_ok 0 a0 x1) <|
      wu_at_17 (h a0 x1.toNatClampNeg) h
def wu_at_code : pCode := [(0, .iload_n 1, 1), (1, .ifCond .lt (15), 3), (4, .iload_n 1, 1), (5, .aload_n 0, 1), (6, .arraylength, 1), (7, .if_icmp .ge (9), 3), (10, .aload_n 0, 1), (11, .iload_n 1, 1), (12, .iaload, 1), (13, .goto (4), 3), (16, .iconst 0, 1), (17, .ireturn, 1)]
set_option maxRecDepth 20000 in
theorem wu_at_code_ok : px_code prog_1_method_40_code wu_at_code = true := by decide +kernel
def wu_at_orc : pC := px_orc []
theorem wu_at_orc_ok {d : Nat} : px_Or (d + 0) (wu_at_orc) := px_orc_ok (by
  exact px_o0)
set_option maxRecDepth 20000 in
theorem wu_at_17_ok {d : Nat} : ∀ (s0 : Int32) (h : pH) (q : Int32 × pH), wu_at_17 s0 h = some q → px_G (d + 0 + 1) (pX_RX10, prog_1_method_40_code, 2, (some .int)) 17 [none, none] [.inl s0] h q := by
  intro s0 h q e
  exact px_blk_ok (d := d + 0) (M := (pX_RX10, prog_1_method_40_code, 2, (some .int))) (C := wu_at_orc) (code := wu_at_code) (ld := []) (kl := []) (wu_at_orc_ok) pX_ok_RX10 wu_at_code_ok (px_k0) 17 17 _ _ h q e
set_option maxRecDepth 20000 in
theorem wu_at_16_ok {d : Nat} : ∀ (h : pH) (q : Int32 × pH), wu_at_16 h = some q → px_G (d + 0 + 1) (pX_RX10, prog_1_method_40_code, 2, (some .int)) 16 [none, none] [] h q := by
  intro h q e
  exact px_blk_ok (d := d + 0) (M := (pX_RX10, prog_1_method_40_code, 2, (some .int))) (C := wu_at_orc) (code := wu_at_code) (ld := [17]) (kl := [(17, fun ls st h => px_if (px_fit [0, 0] ls && px_fits [1] st) (wu_at_17 (px_si st 0) h))]) (wu_at_orc_ok) pX_ok_RX10 wu_at_code_ok (px_k1 (px_ko (ts := [0, 0]) (ss := [1]) fun ls st h q e => wu_at_17_ok _ _ _ e) px_k0) 17 16 _ _ h q e
set_option maxRecDepth 20000 in
theorem wu_at_ok {d : Nat} {a0 : Nat} {x1 : Int32} {h : pH} {q : Int32 × pH} (e : wu_at a0 x1 h = some q) : px_Con (d + 1) 158 [.inr (.inl a0), .inl x1] h q :=
  px_con (X := pX_RX10) (b := prog_1_method_40_code) (nL := 2) (rt := (some .int)) rfl rfl (Nat.le_of_ble_eq_true rfl) rfl (px_blk_ok (d := d + 0) (M := (pX_RX10, prog_1_method_40_code, 2, (some .int))) (C := wu_at_orc) (code := wu_at_code) (ld := [16, 17]) (kl := [(16, fun ls st h => px_if (px_fit [0, 0] ls && px_fits [] st) (wu_at_16 h)), (17, fun ls st h => px_if (px_fit [0, 0] ls && px_fits [1] st) (wu_at_17 (px_si st 0) h))]) (wu_at_orc_ok) pX_ok_RX10 wu_at_code_ok (px_k1 (px_ko (ts := [0, 0]) (ss := []) fun ls st h q e => wu_at_16_ok _ _ e) (px_k1 (px_ko (ts := [0, 0]) (ss := [1]) fun ls st h q e => wu_at_17_ok _ _ _ e) px_k0)) 17 0 _ _ _ q e)
