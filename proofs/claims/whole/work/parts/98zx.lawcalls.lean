/-! The three calls that may throw, in the law -/
set_option maxRecDepth 20000 in
theorem lw_no {p : Program} {s : State} {m : MethodId} {meth : Method} {c : Code} {b L : Nat} {xs : Nat → Int32} (C0 : lw_At p s m meth c b L xs) : tx_Z (fun q : Nat => s.heap.size ≤ q) s s.heap ∧ tx_S s := by
  obtain ⟨hx, hb, hr, hml, hown, hts, hX, hbl, hlocks, hgv⟩ := C0
  have hq := flat_of_before _ hgv
  have hA : ∀ a : Nat, a < s.heap.size → ¬ (fun q : Nat => s.heap.size ≤ q) a := fun a h1 h2 => absurd h1 (Nat.not_lt.mpr h2)
  have str : ∀ (k : Nat) (tx : String), Jvm.Cond.stringRef RX10 k tx ∈ lw_tbl → Jvm.Cond.exactly (.string RX10 k) "java/lang/String" ∈ flatC (Jvm.Cond.and given_1 narrow_1) → ∃ a, vk_R RX10 k tx a s := by
    intro k tx h1 h2
    obtain ⟨a, c, cA, kA, q1, -⟩ := Cond.exactly_spec (args := #[Value.ref b]) (first := s) (o := none) (s := s) (idx := []) (t := .string RX10 k) (cls := "java/lang/String") (hq _ h2)
    exact ⟨a, vk_R.of (hts _ h1) q1⟩
  refine ⟨⟨vx_Zqof (hts _ (by decide +kernel)) (hts _ (by decide +kernel)) (hq _ (by decide +kernel)) hA, vx_Zqof (hts _ (by decide +kernel)) (hts _ (by decide +kernel)) (hq _ (by decide +kernel)) hA⟩, fun w hw => ?_, str 115 _ (by decide +kernel) (by decide +kernel), str 147 _ (by decide +kernel) (by decide +kernel), str 152 _ (by decide +kernel) (by decide +kernel), str 175 _ (by decide +kernel) (by decide +kernel), str 436 _ (by decide +kernel) (by decide +kernel)⟩
  have h1 := tx_NW_o hw
  have h2 := h1.2
  refine va_Nw.of ?_ (hts w h1.1)
  cases w <;> first | rfl | cases h2
theorem lw_noTr {l : Launch} (h : l.flags = flags0) : l.stackTraces = false := by
  unfold Launch.stackTraces
  rw [h]
  decide +kernel
section LWA
variable {p : Program} {l : Launch} {e0 : Env} {s : State} {m : MethodId} {below : List Frame} {meth : Method} {c : Code} {b L : Nat} {xs : Nat → Int32} {lsA : Array Slot} {cells slots : Nat} {Q : State → Prop} {H : Heap} {locs : List Loc}
/-- script[i + j] -/
theorem lw_argW {pc i j : Nat} {st : List Value} (hx : p.tables.exec = Jvm.exec) (hb : c.code = code) (hX : va_X b L xs s s.heap) (hbl : b < s.heap.size) (hS : va_S (fun q : Nat => s.heap.size ≤ q) s.heap H locs) (h0' : lsA[0]? = some (.val (.ref b))) (h4' : lsA[4]? = some (.val (.int (nI i)))) (hL : L ≤ 2560) (hi : i + 5 ≤ L) (hj : j < 5)
    (h0 : px_find lw_code pc = some (.aload_n 0, 1)) (h1 : px_find lw_code (pc + 1) = some (.iload 4, 2)) (h2 : px_find lw_code (pc + 3) = some (.iconst (j : Int), 1)) (h3 : px_find lw_code (pc + 4) = some (.iadd, 1)) (h4 : px_find lw_code (pc + 5) = some (.iaload, 1))
    (kk : W p l e0 room_1 s m #[Value.ref b] below meth c H locs cells slots Q (F0 m (pc + 6) lsA (.int (xs (i + j)) :: st))) : W p l e0 room_1 s m #[Value.ref b] below meth c H locs cells slots Q (F0 m pc lsA st) := by
  have hbA : ¬ (fun q : Nat => s.heap.size ≤ q) b := Nat.not_le.mpr hbl
  refine lv_aload_n hx hb (lw_d h0) rfl h0' ?_
  refine lv_iload hx hb (lw_d h1) h4' ?_
  refine lv_iconst (v := nI j) hx hb (lw_d h2) (by match j, hj with
    | 0, _ => rfl
    | 1, _ => rfl
    | 2, _ => rfl
    | 3, _ => rfl
    | 4, _ => rfl) ?_
  refine lv_iadd hx hb (lw_d h3) ?_
  rw [nI_add]
  refine va_sld hx hb hX hbl hbA hS (vp_in_nI (by omega) (by omega)) (lw_d h4) ?_
  rw [nI_clamp (by omega)]
  exact kk
end LWA
set_option maxRecDepth 20000 in
theorem hx_mth : Jvm.Cond.methodLink R_law 54 yX11_thrown ∈ px_TB := px_TB_of (by decide +kernel) rfl
set_option maxRecDepth 20000 in
theorem hx_gP : ∀ w ∈ va_wsS R_law 48 hx_yP (.codeWith hx_yP method_3_code 5 (some .int) [(0, 10, 13, 13)] :: px_TB), w ∈ px_TB := by
  intro w hw
  unfold va_wsS at hw
  simp only [List.mem_append, List.mem_cons, List.not_mem_nil, or_false] at hw
  rcases hw with (rfl | rfl | rfl) | rfl | hw
  · exact px_TB_of (by decide +kernel) rfl
  · exact px_TB_of (by decide +kernel) rfl
  · exact px_TB_of (by decide +kernel) rfl
  · exact px_TB_of (by decide +kernel) rfl
  · exact hw
set_option maxRecDepth 20000 in
theorem hx_mP : Jvm.Cond.methodLink R_law 53 yX11_person ∈ px_TB := px_TB_of (by decide +kernel) rfl
set_option maxRecDepth 20000 in
theorem lw_X_person : lw_X Inv 293 := by
  intro p l e0 s m below meth c b L xs D D3 ad qo lsA cells slots i h hfl hF hl hL hi hc hs hI kk
  obtain ⟨o, r, h2, hC, e2, ho, hI2⟩ : ∃ (o : Option Int32) (r : Int32) (h2 : pH), hx_Con 6 125 [.inr (.inl 0), .inl (xs (i + 1)), .inl (xs (i + 2))] h o h ∧ mo_person (xs (i + 1)) (xs (i + 2)) h = some (r, h2) ∧ ((o = some r ∧ h2 51 14 = 0) ∨ (o = none ∧ h2 51 14 = nI 1)) ∧ Inv (i + 5) h2 := by
    rcases B_person hI (xs (i + 1)) (xs (i + 2)) with ⟨r, h2, q1, q2, q3, q4⟩ | ⟨r, h2, q1, q2, q3, q4⟩
    · exact ⟨some r, r, h2, wu_person_ok (d := 2) q1, q2, Or.inl ⟨rfl, q3⟩, q4⟩
    · exact ⟨none, r, h2, ⟨tx_person_ok (d := 4) (Nat.le_refl _) q1, rfl⟩, q2, Or.inr ⟨rfl, q3⟩, q4⟩
  have hst : h2 51 14 = hx_r o := by
    rcases ho with ⟨rfl, q⟩ | ⟨rfl, q⟩
    · rw [q]
      rfl
    · rw [q]
      rfl
  intro H locs hP hO hS
  obtain ⟨⟨hx, hb, hr, hml, hown, hts0, hX, hbl, hlocks, hgv⟩, hK, hii, had⟩ := id hF
  have hts := lw_TB hts0
  have hTN := lw_TN hts0
  obtain ⟨hZ0, hS0⟩ := lw_no hF.1
  obtain ⟨o1, o2, o3, cL0, fo0, o4, o5, o6⟩ := id hO
  have hAA : ∀ q, hx_A ad qo H.size q → s.heap.size ≤ q := fun q hq => by
    rcases hq with (⟨a, ha, rfl⟩ | hq) | rfl
    · exact had a ha
    · exact Nat.le_trans hS.1 hq
    · exact o2
  refine lv_aload_n hx hb (lw_d rfl) rfl (lv_at hl 1 rfl) ?_
  refine lw_argW (j := 1) hx hb hX hbl hS (lv_at hl 0 rfl) (lv_at hl 4 rfl) hL hi (by decide) rfl rfl rfl rfl rfl ?_
  refine lw_argW (j := 2) hx hb hX hbl hS (lv_at hl 0 rfl) (lv_at hl 4 rfl) hL hi (by decide) rfl rfl rfl rfl rfl ?_
  refine lv_aload_n hx hb (lw_d rfl) rfl (lv_at hl 3 rfl) ?_
  have hrun := vx_runSX (R := room_1) (hh := [(0, 10, 13, 13)]) (As := [.ref (ad 0), .int (xs (i + 1)), .int (xs (i + 2)), .ref qo]) (rest := []) (e := e0) (below := below) (meth := meth) (H := H) (locs := locs) (cells := cells) (slots := slots) (g := F0 m 307 lsA (([.ref (ad 0), .int (xs (i + 1)), .int (xs (i + 2)), .ref qo] : List Value).reverse ++ [])) ⟨hx, hb, hml, hown, hts⟩ (hx_person (d := 6) hC (lw_noTr hfl) (D := D) (D3 := D3) (sz := H.size) hii o1) (vx_cwSW (R := room_1) 4 hts (px_good hx_gP) rfl rfl rfl (by decide +kernel) ⟨by decide, by decide⟩)
    ⟨hx_blind, fun U hU hW => ⟨rfl, by rw [hU], by rw [hU]; exact hP, va_K.moved hW.alike hK, px_Nw_warm hTN hW, by rw [hU]; exact ((hZ0.kept hS.2.1).narrow hAA).moved hW.alike, hS0.warm hW, cL0, fo0, by rw [hU]; exact o4, arrOfT_moved hW.alike o5, o6.moved hW.alike, fun r e => by cases e⟩⟩ rfl rfl hl.1 rfl (lv_room (Nat.le_of_ble_eq_true rfl)) (lw_d (pc := 307) rfl) ⟨hc, hs⟩
  refine vx_calli hrun hS (fun q _ h => hAA q h) (fun q h => hAA q h) (fun q _ h => h.elim) (fun E ce q9 u t H1 locs1 _ _ hpx => hpx.elim) (fun r0 u t H1 locs1 hte hvm hpost hB hz hk1 hS1 => ?_)
  obtain ⟨⟨hP1, -⟩, cL, fo, g1, g2, g3, g4⟩ := hB
  rw [hte] at hP1 g1
  rw [hpost]
  have g2 := arrOfT_moved hvm.symm g2
  have g3 := g3.moved hvm.symm
  have hq1 : qo < H1.size := (Array.getElem?_eq_some_iff.mp g1).1
  have hnA : ∀ n, qo < n → ¬ px_A ad n qo := fun n hn q => by
    rcases q with ⟨a, ha, e⟩ | q
    · exact o1 a ha e.symm
    · omega
  refine lv_istore (lv' := [(5, .int (hx_r o)), (0, .ref b), (1, .ref (ad 0)), (2, .ref (ad 51)), (3, .ref qo), (4, .int (nI i))]) hx hb (lw_d rfl) hl (by decide) rfl (fun lsB hlB => ?_)
  refine lv_aload_n hx hb (lw_d rfl) rfl (lv_at hlB 3 rfl) ?_
  refine lw_argW (j := 1) hx hb hX hbl hS1 (lv_at hlB 1 rfl) (lv_at hlB 5 rfl) hL hi (by decide) rfl rfl rfl rfl rfl ?_
  refine lw_argW (j := 2) hx hb hX hbl hS1 (lv_at hlB 1 rfl) (lv_at hlB 5 rfl) hL hi (by decide) rfl rfl rfl rfl rfl ?_
  refine lw_callV (d := 5) (id := 213) (own := R_law) (as := [.inl (xs (i + 1)), .inl (xs (i + 2))]) (a0 := 51) (r := []) (q := (r, h2)) (A := fun q : Nat => s.heap.size ≤ q) hx hb hml hown hts hK hTN hii ⟨by decide, by decide⟩ ⟨hc, hs⟩ rfl hx_mP (mo_person_ok (d := 2) e2) hP1 hS1 (fun _ h => h) had hlB.1 (lw_d rfl) rfl rfl (Nat.zero_le _) (fun H2 locs2 hP2 hk2 hz2 hS2 => ?_)
  have g1 : H2[qo]? = some (vp_cell cL (1, .inr (.inl fo))) := by rw [hk2 qo hq1 (hnA _ hq1)]; exact g1
  have hq2 : qo < H2.size := Nat.lt_of_lt_of_le hq1 hz2
  refine lv_istore (lv' := [(6, .int r), (5, .int (hx_r o)), (0, .ref b), (1, .ref (ad 0)), (2, .ref (ad 51)), (3, .ref qo), (4, .int (nI i))]) hx hb (lw_d rfl) hlB (by decide) rfl (fun lsC hlC => ?_)
  refine lv_aload_n hx hb (lw_d rfl) rfl (lv_at hlC 4 rfl) ?_
  refine lw_callV (d := 5) (id := 174) (own := R_law) (as := []) (a0 := 51) (r := []) (q := (h2 51 14, h2)) (A := fun q : Nat => s.heap.size ≤ q) hx hb hml hown hts hK hTN hii ⟨by decide, by decide⟩ ⟨hc, hs⟩ rfl hx_mth (mo_thrown_ok (d := 4) rfl) hP2 hS2 (fun _ h => h) had hlC.1 (lw_d rfl) rfl rfl (Nat.zero_le _) (fun H3 locs3 hP3 hk3 hz3 hS3 => ?_)
  have g1 : H3[qo]? = some (vp_cell cL (1, .inr (.inl fo))) := by rw [hk3 qo hq2 (hnA _ hq2)]; exact g1
  have hO3 : lw_out s ad qo H3 := ⟨o1, o2, Nat.lt_of_lt_of_le hq2 hz3, cL, fo, g1, g2, g3⟩
  have hend : W p l e0 room_1 s m #[Value.ref b] below meth c H3 locs3 (cells + 1) (slots + 6) (lw_Z below #[Value.ref b] s) (F0 m 358 lsC []) := lv_goto (tgt := 1487) hx hb (lw_d rfl) rfl (kk h2 lsC hI2 (lv_sub hlC [2, 3, 4, 5, 6] rfl) H3 locs3 hP3 hO3 hS3)
  refine lv_iload hx hb (lw_d rfl) (lv_at hlC 1 rfl) ?_
  refine lv_icmp_eq (tgt := 341) hx hb (lw_d rfl) rfl (fun _ => ?_) (fun hne => absurd hst hne)
  refine lv_iload hx hb (lw_d rfl) (lv_at hlC 1 rfl) ?_
  refine lv_if_ne (tgt := 358) hx hb (lw_d rfl) rfl (fun _ => hend) (fun h0 => ?_)
  have hor : o = some r := by
    rcases ho with ⟨q, -⟩ | ⟨rfl, -⟩
    · exact q
    · exact absurd h0 (by decide)
  refine lv_aload_n hx hb (lw_d rfl) rfl (lv_at hlC 5 rfl) ?_
  refine lv_iconst (v := 0) hx hb (lw_d rfl) rfl ?_
  refine va_lald (D := D) (cl := px_cl) (ws := [(qo, .inl (cL, (1, .inr (.inl fo))))]) (tys := [(cL, .long)]) (n := 1) (f := fo) (cA := cL) (i := 0) hx hb ⟨hK.1, fun j z hz => by
    match j, hz with
    | 0, hz => cases hz; exact ⟨g2, g3⟩
    | j + 1, hz => cases hz⟩ (fun j z hz => by
    match j, hz with
    | 0, hz => cases hz; exact g1
    | j + 1, hz => cases hz) 0 0 rfl rfl (fun q => by
    rcases q with q | q
    · exact absurd q (by decide)
    · exact absurd q (by decide)) (lw_d rfl) ?_
  refine lv_iload hx hb (lw_d rfl) (lv_at hlC 0 rfl) ?_
  refine lv_i2l (v := r.toInt64) hx hb (lw_d rfl) rfl ?_
  refine W.lcmp hx hb (lw_d rfl) ?_
  refine lv_if_eq (tgt := 358) hx hb (lw_d rfl) rfl (fun _ => hend) (fun hne => absurd ?_ hne)
  have e9 : fo (Int32.toNatClampNeg 0) = r.toInt64 := g4 r hor
  rw [e9]
  unfold lg_cmp
  rw [if_neg (fun q => by rw [gt_iff_lt, Int64.lt_iff_toInt_lt] at q; omega), if_pos rfl]
set_option maxRecDepth 20000 in
theorem hx_gT : ∀ w ∈ va_wsS R_law 57 hx_yT (.codeWith hx_yT method_4_code 5 (some .int) [(0, 10, 13, 13)] :: px_TB), w ∈ px_TB := by
  intro w hw
  unfold va_wsS at hw
  simp only [List.mem_append, List.mem_cons, List.not_mem_nil, or_false] at hw
  rcases hw with (rfl | rfl | rfl) | rfl | hw
  · exact px_TB_of (by decide +kernel) rfl
  · exact px_TB_of (by decide +kernel) rfl
  · exact px_TB_of (by decide +kernel) rfl
  · exact px_TB_of (by decide +kernel) rfl
  · exact hw
set_option maxRecDepth 20000 in
theorem hx_mT : Jvm.Cond.methodLink R_law 59 yX11_thing ∈ px_TB := px_TB_of (by decide +kernel) rfl
set_option maxRecDepth 20000 in
theorem lw_X_thing : lw_X Inv 361 := by
  intro p l e0 s m below meth c b L xs D D3 ad qo lsA cells slots i h hfl hF hl hL hi hc hs hI kk
  obtain ⟨o, r, h2, hC, e2, ho, hI2⟩ : ∃ (o : Option Int32) (r : Int32) (h2 : pH), hx_Con 6 126 [.inr (.inl 0), .inl (xs (i + 1)), .inl (xs (i + 2))] h o h ∧ mo_thing (xs (i + 1)) (xs (i + 2)) h = some (r, h2) ∧ ((o = some r ∧ h2 51 14 = 0) ∨ (o = none ∧ h2 51 14 = nI 1)) ∧ Inv (i + 5) h2 := by
    rcases B_thing hI (xs (i + 1)) (xs (i + 2)) with ⟨r, h2, q1, q2, q3, q4⟩ | ⟨r, h2, q1, q2, q3, q4⟩
    · exact ⟨some r, r, h2, wu_thing_ok (d := 4) q1, q2, Or.inl ⟨rfl, q3⟩, q4⟩
    · exact ⟨none, r, h2, ⟨tx_thing_ok (d := 4) (Nat.le_refl _) q1, rfl⟩, q2, Or.inr ⟨rfl, q3⟩, q4⟩
  have hst : h2 51 14 = hx_r o := by
    rcases ho with ⟨rfl, q⟩ | ⟨rfl, q⟩
    · rw [q]
      rfl
    · rw [q]
      rfl
  intro H locs hP hO hS
  obtain ⟨⟨hx, hb, hr, hml, hown, hts0, hX, hbl, hlocks, hgv⟩, hK, hii, had⟩ := id hF
  have hts := lw_TB hts0
  have hTN := lw_TN hts0
  obtain ⟨hZ0, hS0⟩ := lw_no hF.1
  obtain ⟨o1, o2, o3, cL0, fo0, o4, o5, o6⟩ := id hO
  have hAA : ∀ q, hx_A ad qo H.size q → s.heap.size ≤ q := fun q hq => by
    rcases hq with (⟨a, ha, rfl⟩ | hq) | rfl
    · exact had a ha
    · exact Nat.le_trans hS.1 hq
    · exact o2
  refine lv_aload_n hx hb (lw_d rfl) rfl (lv_at hl 1 rfl) ?_
  refine lw_argW (j := 1) hx hb hX hbl hS (lv_at hl 0 rfl) (lv_at hl 4 rfl) hL hi (by decide) rfl rfl rfl rfl rfl ?_
  refine lw_argW (j := 2) hx hb hX hbl hS (lv_at hl 0 rfl) (lv_at hl 4 rfl) hL hi (by decide) rfl rfl rfl rfl rfl ?_
  refine lv_aload_n hx hb (lw_d rfl) rfl (lv_at hl 3 rfl) ?_
  have hrun := vx_runSX (R := room_1) (hh := [(0, 10, 13, 13)]) (As := [.ref (ad 0), .int (xs (i + 1)), .int (xs (i + 2)), .ref qo]) (rest := []) (e := e0) (below := below) (meth := meth) (H := H) (locs := locs) (cells := cells) (slots := slots) (g := F0 m 375 lsA (([.ref (ad 0), .int (xs (i + 1)), .int (xs (i + 2)), .ref qo] : List Value).reverse ++ [])) ⟨hx, hb, hml, hown, hts⟩ (hx_thing (d := 6) hC (lw_noTr hfl) (D := D) (D3 := D3) (sz := H.size) hii o1) (vx_cwSW (R := room_1) 4 hts (px_good hx_gT) rfl rfl rfl (by decide +kernel) ⟨by decide, by decide⟩)
    ⟨hx_blind, fun U hU hW => ⟨rfl, by rw [hU], by rw [hU]; exact hP, va_K.moved hW.alike hK, px_Nw_warm hTN hW, by rw [hU]; exact ((hZ0.kept hS.2.1).narrow hAA).moved hW.alike, hS0.warm hW, cL0, fo0, by rw [hU]; exact o4, arrOfT_moved hW.alike o5, o6.moved hW.alike, fun r e => by cases e⟩⟩ rfl rfl hl.1 rfl (lv_room (Nat.le_of_ble_eq_true rfl)) (lw_d (pc := 375) rfl) ⟨hc, hs⟩
  refine vx_calli hrun hS (fun q _ h => hAA q h) (fun q h => hAA q h) (fun q _ h => h.elim) (fun E ce q9 u t H1 locs1 _ _ hpx => hpx.elim) (fun r0 u t H1 locs1 hte hvm hpost hB hz hk1 hS1 => ?_)
  obtain ⟨⟨hP1, -⟩, cL, fo, g1, g2, g3, g4⟩ := hB
  rw [hte] at hP1 g1
  rw [hpost]
  have g2 := arrOfT_moved hvm.symm g2
  have g3 := g3.moved hvm.symm
  have hq1 : qo < H1.size := (Array.getElem?_eq_some_iff.mp g1).1
  have hnA : ∀ n, qo < n → ¬ px_A ad n qo := fun n hn q => by
    rcases q with ⟨a, ha, e⟩ | q
    · exact o1 a ha e.symm
    · omega
  refine lv_istore (lv' := [(5, .int (hx_r o)), (0, .ref b), (1, .ref (ad 0)), (2, .ref (ad 51)), (3, .ref qo), (4, .int (nI i))]) hx hb (lw_d rfl) hl (by decide) rfl (fun lsB hlB => ?_)
  refine lv_aload_n hx hb (lw_d rfl) rfl (lv_at hlB 3 rfl) ?_
  refine lw_argW (j := 1) hx hb hX hbl hS1 (lv_at hlB 1 rfl) (lv_at hlB 5 rfl) hL hi (by decide) rfl rfl rfl rfl rfl ?_
  refine lw_argW (j := 2) hx hb hX hbl hS1 (lv_at hlB 1 rfl) (lv_at hlB 5 rfl) hL hi (by decide) rfl rfl rfl rfl rfl ?_
  refine lw_callV (d := 5) (id := 214) (own := R_law) (as := [.inl (xs (i + 1)), .inl (xs (i + 2))]) (a0 := 51) (r := []) (q := (r, h2)) (A := fun q : Nat => s.heap.size ≤ q) hx hb hml hown hts hK hTN hii ⟨by decide, by decide⟩ ⟨hc, hs⟩ rfl hx_mT (mo_thing_ok (d := 2) e2) hP1 hS1 (fun _ h => h) had hlB.1 (lw_d rfl) rfl rfl (Nat.zero_le _) (fun H2 locs2 hP2 hk2 hz2 hS2 => ?_)
  have g1 : H2[qo]? = some (vp_cell cL (1, .inr (.inl fo))) := by rw [hk2 qo hq1 (hnA _ hq1)]; exact g1
  have hq2 : qo < H2.size := Nat.lt_of_lt_of_le hq1 hz2
  refine lv_istore (lv' := [(6, .int r), (5, .int (hx_r o)), (0, .ref b), (1, .ref (ad 0)), (2, .ref (ad 51)), (3, .ref qo), (4, .int (nI i))]) hx hb (lw_d rfl) hlB (by decide) rfl (fun lsC hlC => ?_)
  refine lv_aload_n hx hb (lw_d rfl) rfl (lv_at hlC 4 rfl) ?_
  refine lw_callV (d := 5) (id := 174) (own := R_law) (as := []) (a0 := 51) (r := []) (q := (h2 51 14, h2)) (A := fun q : Nat => s.heap.size ≤ q) hx hb hml hown hts hK hTN hii ⟨by decide, by decide⟩ ⟨hc, hs⟩ rfl hx_mth (mo_thrown_ok (d := 4) rfl) hP2 hS2 (fun _ h => h) had hlC.1 (lw_d rfl) rfl rfl (Nat.zero_le _) (fun H3 locs3 hP3 hk3 hz3 hS3 => ?_)
  have g1 : H3[qo]? = some (vp_cell cL (1, .inr (.inl fo))) := by rw [hk3 qo hq2 (hnA _ hq2)]; exact g1
  have hO3 : lw_out s ad qo H3 := ⟨o1, o2, Nat.lt_of_lt_of_le hq2 hz3, cL, fo, g1, g2, g3⟩
  have hend : W p l e0 room_1 s m #[Value.ref b] below meth c H3 locs3 (cells + 1) (slots + 6) (lw_Z below #[Value.ref b] s) (F0 m 426 lsC []) := lv_goto (tgt := 1487) hx hb (lw_d rfl) rfl (kk h2 lsC hI2 (lv_sub hlC [2, 3, 4, 5, 6] rfl) H3 locs3 hP3 hO3 hS3)
  refine lv_iload hx hb (lw_d rfl) (lv_at hlC 1 rfl) ?_
  refine lv_icmp_eq (tgt := 409) hx hb (lw_d rfl) rfl (fun _ => ?_) (fun hne => absurd hst hne)
  refine lv_iload hx hb (lw_d rfl) (lv_at hlC 1 rfl) ?_
  refine lv_if_ne (tgt := 426) hx hb (lw_d rfl) rfl (fun _ => hend) (fun h0 => ?_)
  have hor : o = some r := by
    rcases ho with ⟨q, -⟩ | ⟨rfl, -⟩
    · exact q
    · exact absurd h0 (by decide)
  refine lv_aload_n hx hb (lw_d rfl) rfl (lv_at hlC 5 rfl) ?_
  refine lv_iconst (v := 0) hx hb (lw_d rfl) rfl ?_
  refine va_lald (D := D) (cl := px_cl) (ws := [(qo, .inl (cL, (1, .inr (.inl fo))))]) (tys := [(cL, .long)]) (n := 1) (f := fo) (cA := cL) (i := 0) hx hb ⟨hK.1, fun j z hz => by
    match j, hz with
    | 0, hz => cases hz; exact ⟨g2, g3⟩
    | j + 1, hz => cases hz⟩ (fun j z hz => by
    match j, hz with
    | 0, hz => cases hz; exact g1
    | j + 1, hz => cases hz) 0 0 rfl rfl (fun q => by
    rcases q with q | q
    · exact absurd q (by decide)
    · exact absurd q (by decide)) (lw_d rfl) ?_
  refine lv_iload hx hb (lw_d rfl) (lv_at hlC 0 rfl) ?_
  refine lv_i2l (v := r.toInt64) hx hb (lw_d rfl) rfl ?_
  refine W.lcmp hx hb (lw_d rfl) ?_
  refine lv_if_eq (tgt := 426) hx hb (lw_d rfl) rfl (fun _ => hend) (fun hne => absurd ?_ hne)
  have e9 : fo (Int32.toNatClampNeg 0) = r.toInt64 := g4 r hor
  rw [e9]
  unfold lg_cmp
  rw [if_neg (fun q => by rw [gt_iff_lt, Int64.lt_iff_toInt_lt] at q; omega), if_pos rfl]
set_option maxRecDepth 20000 in
theorem hx_gR : ∀ w ∈ va_wsS R_law 182 hx_yR (.codeWith hx_yR method_5_code 4 (some .int) [(0, 9, 12, 13)] :: px_TB), w ∈ px_TB := by
  intro w hw
  unfold va_wsS at hw
  simp only [List.mem_append, List.mem_cons, List.not_mem_nil, or_false] at hw
  rcases hw with (rfl | rfl | rfl) | rfl | hw
  · exact px_TB_of (by decide +kernel) rfl
  · exact px_TB_of (by decide +kernel) rfl
  · exact px_TB_of (by decide +kernel) rfl
  · exact px_TB_of (by decide +kernel) rfl
  · exact hw
set_option maxRecDepth 20000 in
theorem hx_mR : Jvm.Cond.methodLink R_law 185 yX11_row ∈ px_TB := px_TB_of (by decide +kernel) rfl
set_option maxRecDepth 20000 in
theorem lw_X_row : lw_X Inv 1431 := by
  intro p l e0 s m below meth c b L xs D D3 ad qo lsA cells slots i h hfl hF hl hL hi hc hs hI kk
  obtain ⟨o, r, h2, hC, e2, ho, hI2⟩ : ∃ (o : Option Int32) (r : Int32) (h2 : pH), hx_Con 6 157 [.inr (.inl 0), .inl (xs (i + 1))] h o h ∧ mo_row (xs (i + 1)) h = some (r, h2) ∧ ((o = some r ∧ h2 51 14 = 0) ∨ (o = none ∧ h2 51 14 = nI 1)) ∧ Inv (i + 5) h2 := by
    rcases B_row hI (xs (i + 1)) with ⟨r, h2, q1, q2, q3, q4⟩ | ⟨r, h2, q1, q2, q3, q4⟩
    · exact ⟨some r, r, h2, wu_row_ok (d := 4) q1, q2, Or.inl ⟨rfl, q3⟩, q4⟩
    · exact ⟨none, r, h2, ⟨tx_row_ok (d := 4) (Nat.le_refl _) q1, rfl⟩, q2, Or.inr ⟨rfl, q3⟩, q4⟩
  have hst : h2 51 14 = hx_r o := by
    rcases ho with ⟨rfl, q⟩ | ⟨rfl, q⟩
    · rw [q]
      rfl
    · rw [q]
      rfl
  intro H locs hP hO hS
  obtain ⟨⟨hx, hb, hr, hml, hown, hts0, hX, hbl, hlocks, hgv⟩, hK, hii, had⟩ := id hF
  have hts := lw_TB hts0
  have hTN := lw_TN hts0
  obtain ⟨hZ0, hS0⟩ := lw_no hF.1
  obtain ⟨o1, o2, o3, cL0, fo0, o4, o5, o6⟩ := id hO
  have hAA : ∀ q, hx_A ad qo H.size q → s.heap.size ≤ q := fun q hq => by
    rcases hq with (⟨a, ha, rfl⟩ | hq) | rfl
    · exact had a ha
    · exact Nat.le_trans hS.1 hq
    · exact o2
  refine lv_aload_n hx hb (lw_d rfl) rfl (lv_at hl 1 rfl) ?_
  refine lw_argW (j := 1) hx hb hX hbl hS (lv_at hl 0 rfl) (lv_at hl 4 rfl) hL hi (by decide) rfl rfl rfl rfl rfl ?_
  refine lv_aload_n hx hb (lw_d rfl) rfl (lv_at hl 3 rfl) ?_
  have hrun := vx_runSX (R := room_1) (hh := [(0, 9, 12, 13)]) (As := [.ref (ad 0), .int (xs (i + 1)), .ref qo]) (rest := []) (e := e0) (below := below) (meth := meth) (H := H) (locs := locs) (cells := cells) (slots := slots) (g := F0 m 1439 lsA (([.ref (ad 0), .int (xs (i + 1)), .ref qo] : List Value).reverse ++ [])) ⟨hx, hb, hml, hown, hts⟩ (hx_row (d := 6) hC (lw_noTr hfl) (D := D) (D3 := D3) (sz := H.size) hii o1) (vx_cwSW (R := room_1) 3 hts (px_good hx_gR) rfl rfl rfl (by decide +kernel) ⟨by decide, by decide⟩)
    ⟨hx_blind, fun U hU hW => ⟨rfl, by rw [hU], by rw [hU]; exact hP, va_K.moved hW.alike hK, px_Nw_warm hTN hW, by rw [hU]; exact ((hZ0.kept hS.2.1).narrow hAA).moved hW.alike, hS0.warm hW, cL0, fo0, by rw [hU]; exact o4, arrOfT_moved hW.alike o5, o6.moved hW.alike, fun r e => by cases e⟩⟩ rfl rfl hl.1 rfl (lv_room (Nat.le_of_ble_eq_true rfl)) (lw_d (pc := 1439) rfl) ⟨hc, hs⟩
  refine vx_calli hrun hS (fun q _ h => hAA q h) (fun q h => hAA q h) (fun q _ h => h.elim) (fun E ce q9 u t H1 locs1 _ _ hpx => hpx.elim) (fun r0 u t H1 locs1 hte hvm hpost hB hz hk1 hS1 => ?_)
  obtain ⟨⟨hP1, -⟩, cL, fo, g1, g2, g3, g4⟩ := hB
  rw [hte] at hP1 g1
  rw [hpost]
  have g2 := arrOfT_moved hvm.symm g2
  have g3 := g3.moved hvm.symm
  have hq1 : qo < H1.size := (Array.getElem?_eq_some_iff.mp g1).1
  have hnA : ∀ n, qo < n → ¬ px_A ad n qo := fun n hn q => by
    rcases q with ⟨a, ha, e⟩ | q
    · exact o1 a ha e.symm
    · omega
  refine lv_istore (lv' := [(5, .int (hx_r o)), (0, .ref b), (1, .ref (ad 0)), (2, .ref (ad 51)), (3, .ref qo), (4, .int (nI i))]) hx hb (lw_d rfl) hl (by decide) rfl (fun lsB hlB => ?_)
  refine lv_aload_n hx hb (lw_d rfl) rfl (lv_at hlB 3 rfl) ?_
  refine lw_argW (j := 1) hx hb hX hbl hS1 (lv_at hlB 1 rfl) (lv_at hlB 5 rfl) hL hi (by decide) rfl rfl rfl rfl rfl ?_
  refine lw_callV (d := 5) (id := 278) (own := R_law) (as := [.inl (xs (i + 1))]) (a0 := 51) (r := []) (q := (r, h2)) (A := fun q : Nat => s.heap.size ≤ q) hx hb hml hown hts hK hTN hii ⟨by decide, by decide⟩ ⟨hc, hs⟩ rfl hx_mR (mo_row_ok (d := 3) e2) hP1 hS1 (fun _ h => h) had hlB.1 (lw_d rfl) rfl rfl (Nat.zero_le _) (fun H2 locs2 hP2 hk2 hz2 hS2 => ?_)
  have g1 : H2[qo]? = some (vp_cell cL (1, .inr (.inl fo))) := by rw [hk2 qo hq1 (hnA _ hq1)]; exact g1
  have hq2 : qo < H2.size := Nat.lt_of_lt_of_le hq1 hz2
  refine lv_istore (lv' := [(6, .int r), (5, .int (hx_r o)), (0, .ref b), (1, .ref (ad 0)), (2, .ref (ad 51)), (3, .ref qo), (4, .int (nI i))]) hx hb (lw_d rfl) hlB (by decide) rfl (fun lsC hlC => ?_)
  refine lv_aload_n hx hb (lw_d rfl) rfl (lv_at hlC 4 rfl) ?_
  refine lw_callV (d := 5) (id := 174) (own := R_law) (as := []) (a0 := 51) (r := []) (q := (h2 51 14, h2)) (A := fun q : Nat => s.heap.size ≤ q) hx hb hml hown hts hK hTN hii ⟨by decide, by decide⟩ ⟨hc, hs⟩ rfl hx_mth (mo_thrown_ok (d := 4) rfl) hP2 hS2 (fun _ h => h) had hlC.1 (lw_d rfl) rfl rfl (Nat.zero_le _) (fun H3 locs3 hP3 hk3 hz3 hS3 => ?_)
  have g1 : H3[qo]? = some (vp_cell cL (1, .inr (.inl fo))) := by rw [hk3 qo hq2 (hnA _ hq2)]; exact g1
  have hO3 : lw_out s ad qo H3 := ⟨o1, o2, Nat.lt_of_lt_of_le hq2 hz3, cL, fo, g1, g2, g3⟩
  have hend : W p l e0 room_1 s m #[Value.ref b] below meth c H3 locs3 (cells + 1) (slots + 6) (lw_Z below #[Value.ref b] s) (F0 m 1484 lsC []) := lv_goto (tgt := 1487) hx hb (lw_d rfl) rfl (kk h2 lsC hI2 (lv_sub hlC [2, 3, 4, 5, 6] rfl) H3 locs3 hP3 hO3 hS3)
  refine lv_iload hx hb (lw_d rfl) (lv_at hlC 1 rfl) ?_
  refine lv_icmp_eq (tgt := 1467) hx hb (lw_d rfl) rfl (fun _ => ?_) (fun hne => absurd hst hne)
  refine lv_iload hx hb (lw_d rfl) (lv_at hlC 1 rfl) ?_
  refine lv_if_ne (tgt := 1484) hx hb (lw_d rfl) rfl (fun _ => hend) (fun h0 => ?_)
  have hor : o = some r := by
    rcases ho with ⟨q, -⟩ | ⟨rfl, -⟩
    · exact q
    · exact absurd h0 (by decide)
  refine lv_aload_n hx hb (lw_d rfl) rfl (lv_at hlC 5 rfl) ?_
  refine lv_iconst (v := 0) hx hb (lw_d rfl) rfl ?_
  refine va_lald (D := D) (cl := px_cl) (ws := [(qo, .inl (cL, (1, .inr (.inl fo))))]) (tys := [(cL, .long)]) (n := 1) (f := fo) (cA := cL) (i := 0) hx hb ⟨hK.1, fun j z hz => by
    match j, hz with
    | 0, hz => cases hz; exact ⟨g2, g3⟩
    | j + 1, hz => cases hz⟩ (fun j z hz => by
    match j, hz with
    | 0, hz => cases hz; exact g1
    | j + 1, hz => cases hz) 0 0 rfl rfl (fun q => by
    rcases q with q | q
    · exact absurd q (by decide)
    · exact absurd q (by decide)) (lw_d rfl) ?_
  refine lv_iload hx hb (lw_d rfl) (lv_at hlC 0 rfl) ?_
  refine lv_i2l (v := r.toInt64) hx hb (lw_d rfl) rfl ?_
  refine W.lcmp hx hb (lw_d rfl) ?_
  refine lv_if_eq (tgt := 1484) hx hb (lw_d rfl) rfl (fun _ => hend) (fun hne => absurd ?_ hne)
  have e9 : fo (Int32.toNatClampNeg 0) = r.toInt64 := g4 r hor
  rw [e9]
  unfold lg_cmp
  rw [if_neg (fun q => by rw [gt_iff_lt, Int64.lt_iff_toInt_lt] at q; omega), if_pos rfl]
