/-! The law's loop, over what is owed: lw_B of the plain functions, lw_X of the three calls that may throw -/
def lw_offs : Array Int := #[165, 190, 215, 228, 241, 254, 322, 390, 415, 452, 513, 562, 611, 648, 697, 746, 759, 772, 809, 846, 883, 920, 957, 994, 1031, 1056, 1093, 1118, 1143, 1156, 1169, 1206, 1243, 1280, 1317, 1342, 1367, 1392]
/-- one of the three calls that may throw: from its place to the end of the switch -/
def lw_X (Inv : Nat → pH → Prop) (k : Nat) : Prop := ∀ (p : Program) (l : Launch) (e0 : Env) (s : State) (m : MethodId) (below : List Frame) (meth : Method) (c : Code) (b L : Nat) (xs : Nat → Int32) (D : va_G) (D3 : Nat → ClassId) (ad : Nat → Nat) (qo : Nat) (lsA : Array Slot) (cells slots i : Nat) (h : pH),
  l.flags = flags0 → lw_Fix p s m meth c b L xs D D3 ad → lv_has lsA 7 [(0, .ref b), (1, .ref (ad 0)), (2, .ref (ad 51)), (3, .ref qo), (4, .int (nI i))] → L ≤ 2560 → i + 5 ≤ L → cells + 1 ≤ room_1.cells → slots + 6 ≤ room_1.slots → Inv i h →
  (∀ (h2 : pH) (lsA2 : Array Slot), Inv (i + 5) h2 → lv_has lsA2 7 [(0, .ref b), (1, .ref (ad 0)), (2, .ref (ad 51)), (3, .ref qo), (4, .int (nI i))] → lw_G p l e0 s m below meth c b D D3 ad qo lsA2 (cells + 1) (slots + 6) 1487 [] h2) → lw_G p l e0 s m below meth c b D D3 ad qo lsA cells slots k [] h
section LWL
variable {p : Program} {l : Launch} {e0 : Env} {s : State} {m : MethodId} {below : List Frame} {meth : Method} {c : Code} {b L : Nat} {xs : Nat → Int32} {D : va_G} {D3 : Nat → ClassId} {ad : Nat → Nat} {qo : Nat}
theorem lw_more {lsA : Array Slot} {cells slots pc k n : Nat} {st : List Value} {h : pH} (h1 : cells ≤ k) (h2 : slots ≤ n) (kk : lw_G p l e0 s m below meth c b D D3 ad qo lsA k n pc st h) : lw_G p l e0 s m below meth c b D D3 ad qo lsA cells slots pc st h := fun H locs hP hO hS => W.widen h1 h2 (kk H locs hP hO hS)
/-- the switch -/
theorem lw_switch {Inv : Nat → pH → Prop} (hB : lw_B Inv) (hM : ∀ i h, Inv i h → Inv (i + 5) h) (hX5 : lw_X Inv 293) (hX6 : lw_X Inv 361) (hX37 : lw_X Inv 1431) {lsA : Array Slot} {cells slots i j : Nat} {h : pH} (hfl : l.flags = flags0) (hF : lw_Fix p s m meth c b L xs D D3 ad) (hl : lv_has lsA 7 [(0, .ref b), (1, .ref (ad 0)), (2, .ref (ad 51)), (3, .ref qo), (4, .int (nI i))]) (hL : L ≤ 2560) (hi : i + 5 ≤ L) (hc : cells + 1 ≤ room_1.cells) (hs : slots + 6 ≤ room_1.slots) (hI : Inv i h) (hj : j < 64)
    (kk : ∀ (h2 : pH) (lsA2 : Array Slot), Inv (i + 5) h2 → lv_has lsA2 7 [(0, .ref b), (1, .ref (ad 0)), (2, .ref (ad 51)), (3, .ref qo), (4, .int (nI i))] → lw_G p l e0 s m below meth c b D D3 ad qo lsA2 (cells + 1) (slots + 6) 1487 [] h2) : lw_G p l e0 s m below meth c b D D3 ad qo lsA cells slots 39 [.int (nI j)] h := by
  have h25 : i + 5 ≤ 2560 := by omega
  have hce : cells ≤ room_1.cells ∧ slots ≤ room_1.slots := ⟨by omega, by omega⟩
  have hk : ∀ h2, Inv (i + 5) h2 → lw_G p l e0 s m below meth c b D D3 ad qo lsA cells slots 1487 [] h2 := fun h2 h9 => lw_more (k := cells + 1) (n := slots + 6) (by omega) (by omega) (kk h2 lsA h9 hl)
  have hgo : ∀ (t : Nat) (off : Int), j < 38 → (lw_offs : Array Int)[j]? = some off → (39 : Int) + off = (t : Int) → lw_G p l e0 s m below meth c b D D3 ad qo lsA cells slots t [] h → lw_G p l e0 s m below meth c b D D3 ad qo lsA cells slots 39 [.int (nI j)] h := by
    intro t off h38 hoff ht kg H locs hP hO hS
    obtain ⟨⟨hx, hb, hr, hml, hown, hts, hX, hbl, hlocks, hgv⟩, hK, hii, had⟩ := hF
    have hji : (nI j).toInt = (j : Int) := nI_toInt (by omega)
    refine lv_tableIn hx hb (lw_d (i := .tableswitch 1448 0 37 lw_offs) rfl) (by omega) (by omega) ?_ ht (kg H locs hP hO hS)
    rw [hji]
    simpa using hoff
  match j, hj with
  | 0, _ =>
    obtain ⟨r, h1, h2, e1, e2, hI2⟩ := hB.1 i h h25 hI (xs (i + 1))
    exact hgo 204 165 (by decide) rfl rfl (lw_case0 hF hl hL hi hce e1 e2 (hk h2 hI2))
  | 1, _ =>
    obtain ⟨r, h1, h2, e1, e2, hI2⟩ := hB.2.1 i h h25 hI (xs (i + 1))
    exact hgo 229 190 (by decide) rfl rfl (lw_case1 hF hl hL hi hce e1 e2 (hk h2 hI2))
  | 2, _ =>
    obtain ⟨r, h1, h2, e1, e2, hI2⟩ := hB.2.2.1 i h h25 hI
    exact hgo 254 215 (by decide) rfl rfl (lw_case2 hF hl hL hi hce e1 e2 (hk h2 hI2))
  | 3, _ =>
    obtain ⟨r, h1, h2, e1, e2, hI2⟩ := hB.2.2.2.1 i h h25 hI
    exact hgo 267 228 (by decide) rfl rfl (lw_case3 hF hl hL hi hce e1 e2 (hk h2 hI2))
  | 4, _ =>
    obtain ⟨r, h1, h2, e1, e2, hI2⟩ := hB.2.2.2.2.1 i h h25 hI
    exact hgo 280 241 (by decide) rfl rfl (lw_case4 hF hl hL hi hce e1 e2 (hk h2 hI2))
  | 5, _ => exact hgo 293 254 (by decide) rfl rfl (hX5 p l e0 s m below meth c b L xs D D3 ad qo lsA cells slots i h hfl hF hl hL hi hc hs hI kk)
  | 6, _ => exact hgo 361 322 (by decide) rfl rfl (hX6 p l e0 s m below meth c b L xs D D3 ad qo lsA cells slots i h hfl hF hl hL hi hc hs hI kk)
  | 7, _ =>
    obtain ⟨r, h1, h2, e1, e2, hI2⟩ := hB.2.2.2.2.2.1 i h h25 hI (xs (i + 1))
    exact hgo 429 390 (by decide) rfl rfl (lw_case7 hF hl hL hi hce e1 e2 (hk h2 hI2))
  | 8, _ =>
    obtain ⟨r, h1, h2, e1, e2, hI2⟩ := hB.2.2.2.2.2.2.1 i h h25 hI (xs (i + 1)) (xs (i + 2))
    exact hgo 454 415 (by decide) rfl rfl (lw_case8 hF hl hL hi hce e1 e2 (hk h2 hI2))
  | 9, _ =>
    obtain ⟨r, h1, h2, e1, e2, hI2⟩ := hB.2.2.2.2.2.2.2.1 i h h25 hI (xs (i + 1)) (xs (i + 2)) (xs (i + 3)) (xs (i + 4))
    exact hgo 491 452 (by decide) rfl rfl (lw_case9 hF hl hL hi hce e1 e2 (hk h2 hI2))
  | 10, _ =>
    obtain ⟨r, h1, h2, e1, e2, hI2⟩ := hB.2.2.2.2.2.2.2.2.1 i h h25 hI (xs (i + 1)) (xs (i + 2)) (xs (i + 3))
    exact hgo 552 513 (by decide) rfl rfl (lw_case10 hF hl hL hi hce e1 e2 (hk h2 hI2))
  | 11, _ =>
    obtain ⟨r, h1, h2, e1, e2, hI2⟩ := hB.2.2.2.2.2.2.2.2.2.1 i h h25 hI (xs (i + 1)) (xs (i + 2)) (xs (i + 3))
    exact hgo 601 562 (by decide) rfl rfl (lw_case11 hF hl hL hi hce e1 e2 (hk h2 hI2))
  | 12, _ =>
    obtain ⟨r, h1, h2, e1, e2, hI2⟩ := hB.2.2.2.2.2.2.2.2.2.2.1 i h h25 hI (xs (i + 1)) (xs (i + 2))
    exact hgo 650 611 (by decide) rfl rfl (lw_case12 hF hl hL hi hce e1 e2 (hk h2 hI2))
  | 13, _ =>
    obtain ⟨r, h1, h2, e1, e2, hI2⟩ := hB.2.2.2.2.2.2.2.2.2.2.2.1 i h h25 hI (xs (i + 1)) (xs (i + 2)) (xs (i + 3))
    exact hgo 687 648 (by decide) rfl rfl (lw_case13 hF hl hL hi hce e1 e2 (hk h2 hI2))
  | 14, _ =>
    obtain ⟨r, h1, h2, e1, e2, hI2⟩ := hB.2.2.2.2.2.2.2.2.2.2.2.2.1 i h h25 hI (xs (i + 1)) (xs (i + 2)) (xs (i + 3))
    exact hgo 736 697 (by decide) rfl rfl (lw_case14 hF hl hL hi hce e1 e2 (hk h2 hI2))
  | 15, _ =>
    obtain ⟨r, h1, h2, e1, e2, hI2⟩ := hB.2.2.2.2.2.2.2.2.2.2.2.2.2.1 i h h25 hI
    exact hgo 785 746 (by decide) rfl rfl (lw_case15 hF hl hL hi hce e1 e2 (hk h2 hI2))
  | 16, _ =>
    obtain ⟨r, h1, h2, e1, e2, hI2⟩ := hB.2.2.2.2.2.2.2.2.2.2.2.2.2.2.1 i h h25 hI
    exact hgo 798 759 (by decide) rfl rfl (lw_case16 hF hl hL hi hce e1 e2 (hk h2 hI2))
  | 17, _ =>
    obtain ⟨r, h1, h2, e1, e2, hI2⟩ := hB.2.2.2.2.2.2.2.2.2.2.2.2.2.2.2.1 i h h25 hI (xs (i + 1)) (xs (i + 2))
    exact hgo 811 772 (by decide) rfl rfl (lw_case17 hF hl hL hi hce e1 e2 (hk h2 hI2))
  | 18, _ =>
    obtain ⟨r, h1, h2, e1, e2, hI2⟩ := hB.2.2.2.2.2.2.2.2.2.2.2.2.2.2.2.2.1 i h h25 hI (xs (i + 1)) (xs (i + 2))
    exact hgo 848 809 (by decide) rfl rfl (lw_case18 hF hl hL hi hce e1 e2 (hk h2 hI2))
  | 19, _ =>
    obtain ⟨r, h1, h2, e1, e2, hI2⟩ := hB.2.2.2.2.2.2.2.2.2.2.2.2.2.2.2.2.2.1 i h h25 hI (xs (i + 1)) (xs (i + 2))
    exact hgo 885 846 (by decide) rfl rfl (lw_case19 hF hl hL hi hce e1 e2 (hk h2 hI2))
  | 20, _ =>
    obtain ⟨r, h1, h2, e1, e2, hI2⟩ := hB.2.2.2.2.2.2.2.2.2.2.2.2.2.2.2.2.2.2.1 i h h25 hI (xs (i + 1)) (xs (i + 2))
    exact hgo 922 883 (by decide) rfl rfl (lw_case20 hF hl hL hi hce e1 e2 (hk h2 hI2))
  | 21, _ =>
    obtain ⟨r, h1, h2, e1, e2, hI2⟩ := hB.2.2.2.2.2.2.2.2.2.2.2.2.2.2.2.2.2.2.2.1 i h h25 hI (xs (i + 1)) (xs (i + 2))
    exact hgo 959 920 (by decide) rfl rfl (lw_case21 hF hl hL hi hce e1 e2 (hk h2 hI2))
  | 22, _ =>
    obtain ⟨r, h1, h2, e1, e2, hI2⟩ := hB.2.2.2.2.2.2.2.2.2.2.2.2.2.2.2.2.2.2.2.2.1 i h h25 hI (xs (i + 1)) (xs (i + 2))
    exact hgo 996 957 (by decide) rfl rfl (lw_case22 hF hl hL hi hce e1 e2 (hk h2 hI2))
  | 23, _ =>
    obtain ⟨r, h1, h2, e1, e2, hI2⟩ := hB.2.2.2.2.2.2.2.2.2.2.2.2.2.2.2.2.2.2.2.2.2.1 i h h25 hI (xs (i + 1)) (xs (i + 2))
    exact hgo 1033 994 (by decide) rfl rfl (lw_case23 hF hl hL hi hce e1 e2 (hk h2 hI2))
  | 24, _ =>
    obtain ⟨r, h1, h2, e1, e2, hI2⟩ := hB.2.2.2.2.2.2.2.2.2.2.2.2.2.2.2.2.2.2.2.2.2.2.1 i h h25 hI (xs (i + 1))
    exact hgo 1070 1031 (by decide) rfl rfl (lw_case24 hF hl hL hi hce e1 e2 (hk h2 hI2))
  | 25, _ =>
    obtain ⟨r, h1, h2, e1, e2, hI2⟩ := hB.2.2.2.2.2.2.2.2.2.2.2.2.2.2.2.2.2.2.2.2.2.2.2.1 i h h25 hI (xs (i + 1)) (xs (i + 2))
    exact hgo 1095 1056 (by decide) rfl rfl (lw_case25 hF hl hL hi hce e1 e2 (hk h2 hI2))
  | 26, _ =>
    obtain ⟨r, h1, h2, e1, e2, hI2⟩ := hB.2.2.2.2.2.2.2.2.2.2.2.2.2.2.2.2.2.2.2.2.2.2.2.2.1 i h h25 hI (xs (i + 1))
    exact hgo 1132 1093 (by decide) rfl rfl (lw_case26 hF hl hL hi hce e1 e2 (hk h2 hI2))
  | 27, _ =>
    obtain ⟨r, h1, h2, e1, e2, hI2⟩ := hB.2.2.2.2.2.2.2.2.2.2.2.2.2.2.2.2.2.2.2.2.2.2.2.2.2.1 i h h25 hI (xs (i + 1))
    exact hgo 1157 1118 (by decide) rfl rfl (lw_case27 hF hl hL hi hce e1 e2 (hk h2 hI2))
  | 28, _ =>
    obtain ⟨r, h1, h2, e1, e2, hI2⟩ := hB.2.2.2.2.2.2.2.2.2.2.2.2.2.2.2.2.2.2.2.2.2.2.2.2.2.2.1 i h h25 hI
    exact hgo 1182 1143 (by decide) rfl rfl (lw_case28 hF hl hL hi hce e1 e2 (hk h2 hI2))
  | 29, _ =>
    obtain ⟨r, h1, h2, e1, e2, hI2⟩ := hB.2.2.2.2.2.2.2.2.2.2.2.2.2.2.2.2.2.2.2.2.2.2.2.2.2.2.2.1 i h h25 hI
    exact hgo 1195 1156 (by decide) rfl rfl (lw_case29 hF hl hL hi hce e1 e2 (hk h2 hI2))
  | 30, _ =>
    obtain ⟨r, h1, h2, e1, e2, hI2⟩ := hB.2.2.2.2.2.2.2.2.2.2.2.2.2.2.2.2.2.2.2.2.2.2.2.2.2.2.2.2.1 i h h25 hI (xs (i + 1)) (xs (i + 2))
    exact hgo 1208 1169 (by decide) rfl rfl (lw_case30 hF hl hL hi hce e1 e2 (hk h2 hI2))
  | 31, _ =>
    obtain ⟨r, h1, h2, e1, e2, hI2⟩ := hB.2.2.2.2.2.2.2.2.2.2.2.2.2.2.2.2.2.2.2.2.2.2.2.2.2.2.2.2.2.1 i h h25 hI (xs (i + 1)) (xs (i + 2))
    exact hgo 1245 1206 (by decide) rfl rfl (lw_case31 hF hl hL hi hce e1 e2 (hk h2 hI2))
  | 32, _ =>
    obtain ⟨r, h1, h2, e1, e2, hI2⟩ := hB.2.2.2.2.2.2.2.2.2.2.2.2.2.2.2.2.2.2.2.2.2.2.2.2.2.2.2.2.2.2.1 i h h25 hI (xs (i + 1)) (xs (i + 2))
    exact hgo 1282 1243 (by decide) rfl rfl (lw_case32 hF hl hL hi hce e1 e2 (hk h2 hI2))
  | 33, _ =>
    obtain ⟨r, h1, h2, e1, e2, hI2⟩ := hB.2.2.2.2.2.2.2.2.2.2.2.2.2.2.2.2.2.2.2.2.2.2.2.2.2.2.2.2.2.2.2.1 i h h25 hI (xs (i + 1)) (xs (i + 2))
    exact hgo 1319 1280 (by decide) rfl rfl (lw_case33 hF hl hL hi hce e1 e2 (hk h2 hI2))
  | 34, _ =>
    obtain ⟨r, h1, h2, e1, e2, hI2⟩ := hB.2.2.2.2.2.2.2.2.2.2.2.2.2.2.2.2.2.2.2.2.2.2.2.2.2.2.2.2.2.2.2.2.1 i h h25 hI (xs (i + 1))
    exact hgo 1356 1317 (by decide) rfl rfl (lw_case34 hF hl hL hi hce e1 e2 (hk h2 hI2))
  | 35, _ =>
    obtain ⟨r, h1, h2, e1, e2, hI2⟩ := hB.2.2.2.2.2.2.2.2.2.2.2.2.2.2.2.2.2.2.2.2.2.2.2.2.2.2.2.2.2.2.2.2.2.1 i h h25 hI (xs (i + 1))
    exact hgo 1381 1342 (by decide) rfl rfl (lw_case35 hF hl hL hi hce e1 e2 (hk h2 hI2))
  | 36, _ =>
    obtain ⟨r, h1, h2, e1, e2, hI2⟩ := hB.2.2.2.2.2.2.2.2.2.2.2.2.2.2.2.2.2.2.2.2.2.2.2.2.2.2.2.2.2.2.2.2.2.2 i h h25 hI (xs (i + 1))
    exact hgo 1406 1367 (by decide) rfl rfl (lw_case36 hF hl hL hi hce e1 e2 (hk h2 hI2))
  | 37, _ => exact hgo 1431 1392 (by decide) rfl rfl (hX37 p l e0 s m below meth c b L xs D D3 ad qo lsA cells slots i h hfl hF hl hL hi hc hs hI kk)
  | j + 38, hj =>
    intro H locs hP hO hS
    have h9 := hk h (hM i h hI) H locs hP hO hS
    obtain ⟨⟨hx, hb, hr, hml, hown, hts, hX, hbl, hlocks, hgv⟩, hK, hii, had⟩ := hF
    have hji : (nI (j + 38)).toInt = ((j + 38 : Nat) : Int) := nI_toInt (by omega)
    exact lv_tableOut hx hb (lw_d (i := .tableswitch 1448 0 37 lw_offs) rfl) (by omega) rfl h9
set_option maxRecDepth 100000 in
/-- the loop -/
theorem lw_loop {Inv : Nat → pH → Prop} (hB : lw_B Inv) (hM : ∀ i h, Inv i h → Inv (i + 5) h) (hX5 : lw_X Inv 293) (hX6 : lw_X Inv 361) (hX37 : lw_X Inv 1431) (hfl : l.flags = flags0) (hF : lw_Fix p s m meth c b L xs D D3 ad) (hL : L ≤ 2560) :
    ∀ (n i cells slots : Nat) (h : pH) (lsA : Array Slot), L + 6 ≤ i + n → i ≤ L + 5 → cells + n ≤ 600000 → slots + 6 * n ≤ 7000000 → Inv i h → lv_has lsA 7 [(0, .ref b), (1, .ref (ad 0)), (2, .ref (ad 51)), (3, .ref qo), (4, .int (nI i))] → lw_G p l e0 s m below meth c b D D3 ad qo lsA cells slots 23 [] h := by
  intro n
  induction n with
  | zero =>
    intro i cells slots h lsA h1 h2
    exact absurd h1 (by omega)
  | succ n ih =>
    intro i cells slots h lsA h1 h2 hc hs hI hl H locs hP hO hS
    obtain ⟨⟨hx, hb, hr, hml, hown, hts, hX, hbl, hlocks, hgv⟩, hK, hii, had⟩ := id hF
    have hbA : ¬ (fun q : Nat => s.heap.size ≤ q) b := Nat.not_le.mpr hbl
    refine lv_iload hx hb (lw_d rfl) (lv_at hl 4 rfl) ?_
    refine lv_aload_n hx hb (lw_d rfl) rfl (lv_at hl 0 rfl) ?_
    refine va_slen hx hb hX hbl hbA hS (lw_d rfl) ?_
    refine lv_iconst (v := nI 5) hx hb (lw_d rfl) rfl ?_
    refine lv_isub hx hb (lw_d rfl) ?_
    have hsub : (nI L - nI 5).toInt = (L : Int) - 5 := pk_sub_toInt (by omega) (by omega)
    have hii2 : (nI i).toInt = (i : Int) := nI_toInt (by omega)
    refine lv_icmp_gt (tgt := 1493) hx hb (lw_d rfl) rfl (fun hgt => ?_) (fun hgt => ?_)
    · refine lv_iconst (v := 1) hx hb (lw_d rfl) rfl ?_
      refine va_forget (fun q hq => hS.2.2 q hq) ?_
      refine W.widen (k := 601024) (n := 7293034) (by omega) (by omega) ?_
      exact lw_ret hx hb hr hlocks (lw_d rfl)
    · have hi : i + 5 ≤ L := by
        rw [Int32.lt_iff_toInt_lt] at hgt
        change ¬ (nI L - nI 5).toInt < (nI i).toInt at hgt
        rw [hsub, hii2] at hgt
        omega
      refine lv_aload_n hx hb (lw_d rfl) rfl (lv_at hl 0 rfl) ?_
      refine lv_iload hx hb (lw_d rfl) (lv_at hl 4 rfl) ?_
      refine va_sld hx hb hX hbl hbA hS (vp_in_nI (by omega) (by omega)) (lw_d rfl) ?_
      refine lv_bipush (v := 63) hx hb (lw_d rfl) rfl ?_
      refine lv_iand hx hb (lw_d rfl) ?_
      obtain ⟨j, hj, hje⟩ := pk_andE (xs (nI i).toNatClampNeg) (m := 63) 6 rfl
      rw [hje]
      refine lw_switch hB hM hX5 hX6 hX37 hfl hF hl hL hi (by show cells + 1 ≤ 601024; omega) (by show slots + 6 ≤ 7293034; omega) hI hj (fun h2 lsA2 hI2 hl2 H2 locs2 hP2 hO2 hS2 => ?_) H locs hP hO hS
      refine lv_iinc (v := nI (i + 5)) (lv' := [(4, .int (nI (i + 5))), (0, .ref b), (1, .ref (ad 0)), (2, .ref (ad 51)), (3, .ref qo)]) hx hb (lw_d rfl) hl2 (k := 4) rfl (nI_add i 5) (by decide) rfl (fun ls hl3 => ?_)
      refine lv_goto (tgt := 23) hx hb (lw_d rfl) rfl ?_
      exact ih (i + 5) (cells + 1) (slots + 6) h2 ls (by omega) (by omega) (by omega) (by omega) hI2 (lv_sub hl3 [1, 2, 3, 4, 0] rfl) H2 locs2 hP2 hO2 hS2
end LWL
