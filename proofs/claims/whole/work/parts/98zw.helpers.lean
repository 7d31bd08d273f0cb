/-! The contracts of the three helpers -/
theorem hx_cl13 : Jvm.Cond.classLink R_law 13 tx_E ∈ px_TB := px_TB_of (by decide +kernel) rfl
def hx_yP : MethodName := ⟨R_law, "person", "(LWordsUnsaid;II[J)I"⟩
def hx_cP : pCode := [(0, .aload_n 3, 1), (1, .iconst 0, 1), (2, .aload_n 0, 1), (3, .iload_n 1, 1), (4, .iload_n 2, 1), (5, .invokevirtual 7, 3), (8, .i2l, 1), (9, .lastore, 1), (10, .goto 7, 3), (13, .astore 4, 2), (15, .iconst 1, 1), (16, .ireturn, 1), (17, .iconst 0, 1), (18, .ireturn, 1)]
set_option maxRecDepth 20000 in
theorem hx_cP_ok : px_code method_3_code hx_cP = true := by decide +kernel
set_option maxRecDepth 20000 in
theorem hx_mlP : Jvm.Cond.methodLink R_law 7 yX10_person ∈ px_TB := px_TB_of (by decide +kernel) rfl
set_option maxRecDepth 20000 in
theorem hx_person {d : Nat} {x1 x2 : Int32} {h h1 : pH} {o : Option Int32} (hC : hx_Con d 125 [.inr (.inl 0), .inl x1, .inl x2] h o h1) {l : Launch} (hl : l.stackTraces = false) {D : va_G} {D3 : Nat → ClassId} {ad : Nat → Nat} {qo sz : Nat} (hi : px_inj ad) (hq : ∀ a, a < px_N → ad a ≠ qo) :
    vx_Met l hx_yP (.codeWith hx_yP method_3_code 5 (some .int) [(0, 10, 13, 13)] :: px_TB) (tx_rm (d + 1)) (hx_Pre D D3 ad qo sz h [.ref (ad 0), .int x1, .int x2, .ref qo]) (hx_Q D D3 ad qo sz o h1) hx_X 1 6 (hx_A ad qo sz) := by
  refine vx_ofWH (cc := method_3_code) (maxL := 5) (ret := some .int) (hh := [(0, 10, 13, 13)]) (by decide +kernel) rfl ?_
  intro p e s m args below meth c s₁ B hml hv
  obtain ⟨rfl, hsz, hP, hK, hN, hZ, hSt, hO⟩ := hv
  have hts := atoms_spec (ws := Jvm.Cond.codeWith hx_yP method_3_code 5 (some .int) [(0, 10, 13, 13)] :: px_TB) B.pre
  have htab := vx_table (x := hx_yP) B (hts _ List.mem_cons_self)
  have hown : s.vm.findClass R_law = some m.cls := findClass_of_methodNamed (x := hx_yP) B.named
  have hl9 := lv_entry ([.ref (ad 0), .int x1, .int x2, .ref qo]) (n := 5) (Nat.le_of_ble_eq_true rfl)
  rw [lg_entry_eq]
  generalize (lg_sl ([.ref (ad 0), .int x1, .int x2, .ref qo]) ++ List.replicate (5 - (lg_sl ([.ref (ad 0), .int x1, .int x2, .ref qo])).length) Slot.unset).toArray = ls at hl9 ⊢
  have hl9 : lv_has ls 5 [(0, .ref (ad 0)), (1, .int x1), (2, .int x2), (3, .ref qo)] := hl9
  subst hsz
  have hb := B.bytes
  have hx := B.exec
  refine lv_aload_n hx hb (tx_pd hx_cP_ok rfl) rfl (lv_at hl9 3 rfl) ?_
  refine lv_iconst (v := 0) hx hb (tx_pd hx_cP_ok rfl) rfl ?_
  refine lv_aload_n hx hb (tx_pd hx_cP_ok rfl) rfl (lv_at hl9 0 rfl) ?_
  refine lv_iload_n hx hb (tx_pd hx_cP_ok rfl) rfl (lv_at hl9 1 rfl) ?_
  refine lv_iload_n hx hb (tx_pd hx_cP_ok rfl) rfl (lv_at hl9 2 rfl) ?_
  exact hx_core (d := d) (id := 125) (k := 5) (idx := 7) (t0 := 17) (t1 := 15) (as := [.inl x1, .inl x2]) (o := o) (x := ⟨0, 10, 13, 13⟩) hx hb hml B.returns B.notSynchronized hown (fun w hw => hts w (List.mem_cons_of_mem _ hw)) hK hN hi hq hl hZ hSt hO hP hl9.1 htab (by decide) rfl rfl rfl hx_mlP hx_cl13 hC rfl rfl (tx_pd hx_cP_ok rfl) (tx_pd hx_cP_ok rfl) (tx_pd hx_cP_ok rfl) ⟨7, tx_pd hx_cP_ok rfl, rfl⟩ (tx_pd hx_cP_ok rfl) (tx_pd hx_cP_ok rfl) (tx_pd hx_cP_ok rfl) (tx_pd hx_cP_ok rfl) (fun Q H1 locs1 q9 kc ks kk => lv_astore (i := 4) (lv' := _) hx hb (tx_pd hx_cP_ok rfl) hl9 (by decide) rfl (fun ls' _ => kk ls'))
def hx_yT : MethodName := ⟨R_law, "thing", "(LWordsUnsaid;II[J)I"⟩
def hx_cT : pCode := [(0, .aload_n 3, 1), (1, .iconst 0, 1), (2, .aload_n 0, 1), (3, .iload_n 1, 1), (4, .iload_n 2, 1), (5, .invokevirtual 15, 3), (8, .i2l, 1), (9, .lastore, 1), (10, .goto 7, 3), (13, .astore 4, 2), (15, .iconst 1, 1), (16, .ireturn, 1), (17, .iconst 0, 1), (18, .ireturn, 1)]
set_option maxRecDepth 20000 in
theorem hx_cT_ok : px_code method_4_code hx_cT = true := by decide +kernel
set_option maxRecDepth 20000 in
theorem hx_mlT : Jvm.Cond.methodLink R_law 15 yX10_thing ∈ px_TB := px_TB_of (by decide +kernel) rfl
set_option maxRecDepth 20000 in
theorem hx_thing {d : Nat} {x1 x2 : Int32} {h h1 : pH} {o : Option Int32} (hC : hx_Con d 126 [.inr (.inl 0), .inl x1, .inl x2] h o h1) {l : Launch} (hl : l.stackTraces = false) {D : va_G} {D3 : Nat → ClassId} {ad : Nat → Nat} {qo sz : Nat} (hi : px_inj ad) (hq : ∀ a, a < px_N → ad a ≠ qo) :
    vx_Met l hx_yT (.codeWith hx_yT method_4_code 5 (some .int) [(0, 10, 13, 13)] :: px_TB) (tx_rm (d + 1)) (hx_Pre D D3 ad qo sz h [.ref (ad 0), .int x1, .int x2, .ref qo]) (hx_Q D D3 ad qo sz o h1) hx_X 1 6 (hx_A ad qo sz) := by
  refine vx_ofWH (cc := method_4_code) (maxL := 5) (ret := some .int) (hh := [(0, 10, 13, 13)]) (by decide +kernel) rfl ?_
  intro p e s m args below meth c s₁ B hml hv
  obtain ⟨rfl, hsz, hP, hK, hN, hZ, hSt, hO⟩ := hv
  have hts := atoms_spec (ws := Jvm.Cond.codeWith hx_yT method_4_code 5 (some .int) [(0, 10, 13, 13)] :: px_TB) B.pre
  have htab := vx_table (x := hx_yP) B (hts _ List.mem_cons_self)
  have hown : s.vm.findClass R_law = some m.cls := findClass_of_methodNamed (x := hx_yT) B.named
  have hl9 := lv_entry ([.ref (ad 0), .int x1, .int x2, .ref qo]) (n := 5) (Nat.le_of_ble_eq_true rfl)
  rw [lg_entry_eq]
  generalize (lg_sl ([.ref (ad 0), .int x1, .int x2, .ref qo]) ++ List.replicate (5 - (lg_sl ([.ref (ad 0), .int x1, .int x2, .ref qo])).length) Slot.unset).toArray = ls at hl9 ⊢
  have hl9 : lv_has ls 5 [(0, .ref (ad 0)), (1, .int x1), (2, .int x2), (3, .ref qo)] := hl9
  subst hsz
  have hb := B.bytes
  have hx := B.exec
  refine lv_aload_n hx hb (tx_pd hx_cT_ok rfl) rfl (lv_at hl9 3 rfl) ?_
  refine lv_iconst (v := 0) hx hb (tx_pd hx_cT_ok rfl) rfl ?_
  refine lv_aload_n hx hb (tx_pd hx_cT_ok rfl) rfl (lv_at hl9 0 rfl) ?_
  refine lv_iload_n hx hb (tx_pd hx_cT_ok rfl) rfl (lv_at hl9 1 rfl) ?_
  refine lv_iload_n hx hb (tx_pd hx_cT_ok rfl) rfl (lv_at hl9 2 rfl) ?_
  exact hx_core (d := d) (id := 126) (k := 5) (idx := 15) (t0 := 17) (t1 := 15) (as := [.inl x1, .inl x2]) (o := o) (x := ⟨0, 10, 13, 13⟩) hx hb hml B.returns B.notSynchronized hown (fun w hw => hts w (List.mem_cons_of_mem _ hw)) hK hN hi hq hl hZ hSt hO hP hl9.1 htab (by decide) rfl rfl rfl hx_mlT hx_cl13 hC rfl rfl (tx_pd hx_cT_ok rfl) (tx_pd hx_cT_ok rfl) (tx_pd hx_cT_ok rfl) ⟨7, tx_pd hx_cT_ok rfl, rfl⟩ (tx_pd hx_cT_ok rfl) (tx_pd hx_cT_ok rfl) (tx_pd hx_cT_ok rfl) (tx_pd hx_cT_ok rfl) (fun Q H1 locs1 q9 kc ks kk => lv_astore (i := 4) (lv' := _) hx hb (tx_pd hx_cT_ok rfl) hl9 (by decide) rfl (fun ls' _ => kk ls'))
def hx_yR : MethodName := ⟨R_law, "row", "(LWordsUnsaid;I[J)I"⟩
def hx_cR : pCode := [(0, .aload_n 2, 1), (1, .iconst 0, 1), (2, .aload_n 0, 1), (3, .iload_n 1, 1), (4, .invokevirtual 18, 3), (7, .i2l, 1), (8, .lastore, 1), (9, .goto 6, 3), (12, .astore_n 3, 1), (13, .iconst 1, 1), (14, .ireturn, 1), (15, .iconst 0, 1), (16, .ireturn, 1)]
set_option maxRecDepth 20000 in
theorem hx_cR_ok : px_code method_5_code hx_cR = true := by decide +kernel
set_option maxRecDepth 20000 in
theorem hx_mlR : Jvm.Cond.methodLink R_law 18 yX10_row ∈ px_TB := px_TB_of (by decide +kernel) rfl
set_option maxRecDepth 20000 in
theorem hx_row {d : Nat} {x1 : Int32} {h h1 : pH} {o : Option Int32} (hC : hx_Con d 157 [.inr (.inl 0), .inl x1] h o h1) {l : Launch} (hl : l.stackTraces = false) {D : va_G} {D3 : Nat → ClassId} {ad : Nat → Nat} {qo sz : Nat} (hi : px_inj ad) (hq : ∀ a, a < px_N → ad a ≠ qo) :
    vx_Met l hx_yR (.codeWith hx_yR method_5_code 4 (some .int) [(0, 9, 12, 13)] :: px_TB) (tx_rm (d + 1)) (hx_Pre D D3 ad qo sz h [.ref (ad 0), .int x1, .ref qo]) (hx_Q D D3 ad qo sz o h1) hx_X 1 6 (hx_A ad qo sz) := by
  refine vx_ofWH (cc := method_5_code) (maxL := 4) (ret := some .int) (hh := [(0, 9, 12, 13)]) (by decide +kernel) rfl ?_
  intro p e s m args below meth c s₁ B hml hv
  obtain ⟨rfl, hsz, hP, hK, hN, hZ, hSt, hO⟩ := hv
  have hts := atoms_spec (ws := Jvm.Cond.codeWith hx_yR method_5_code 4 (some .int) [(0, 9, 12, 13)] :: px_TB) B.pre
  have htab := vx_table (x := hx_yP) B (hts _ List.mem_cons_self)
  have hown : s.vm.findClass R_law = some m.cls := findClass_of_methodNamed (x := hx_yR) B.named
  have hl9 := lv_entry ([.ref (ad 0), .int x1, .ref qo]) (n := 4) (Nat.le_of_ble_eq_true rfl)
  rw [lg_entry_eq]
  generalize (lg_sl ([.ref (ad 0), .int x1, .ref qo]) ++ List.replicate (4 - (lg_sl ([.ref (ad 0), .int x1, .ref qo])).length) Slot.unset).toArray = ls at hl9 ⊢
  have hl9 : lv_has ls 4 [(0, .ref (ad 0)), (1, .int x1), (2, .ref qo)] := hl9
  subst hsz
  have hb := B.bytes
  have hx := B.exec
  refine lv_aload_n hx hb (tx_pd hx_cR_ok rfl) rfl (lv_at hl9 2 rfl) ?_
  refine lv_iconst (v := 0) hx hb (tx_pd hx_cR_ok rfl) rfl ?_
  refine lv_aload_n hx hb (tx_pd hx_cR_ok rfl) rfl (lv_at hl9 0 rfl) ?_
  refine lv_iload_n hx hb (tx_pd hx_cR_ok rfl) rfl (lv_at hl9 1 rfl) ?_
  exact hx_core (d := d) (id := 157) (k := 4) (idx := 18) (t0 := 15) (t1 := 13) (as := [.inl x1]) (o := o) (x := ⟨0, 9, 12, 13⟩) hx hb hml B.returns B.notSynchronized hown (fun w hw => hts w (List.mem_cons_of_mem _ hw)) hK hN hi hq hl hZ hSt hO hP hl9.1 htab (by decide) rfl rfl rfl hx_mlR hx_cl13 hC rfl rfl (tx_pd hx_cR_ok rfl) (tx_pd hx_cR_ok rfl) (tx_pd hx_cR_ok rfl) ⟨6, tx_pd hx_cR_ok rfl, rfl⟩ (tx_pd hx_cR_ok rfl) (tx_pd hx_cR_ok rfl) (tx_pd hx_cR_ok rfl) (tx_pd hx_cR_ok rfl) (fun Q H1 locs1 q9 kc ks kk => lv_astore_n (i := 3) (lv' := _) hx hb (tx_pd hx_cR_ok rfl) rfl hl9 (by decide) rfl (fun ls' _ => kk ls'))
