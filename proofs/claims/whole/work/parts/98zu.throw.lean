/-! The three calls that throw: what a throw wants of the state; the methods up to it -/
def tx_E : String := "java/util/NoSuchElementException"
def tx_Y : String := "java/lang/RuntimeException"
def tx_N : List String := ["java/lang/Exception"]
def tx_all : List Jvm.Cond := tx_own RX10 117 tx_E tx_Y 13 prog_21_method_4_code tx_N
def tx_at : List Jvm.Cond := tx_all.filter vx_no
def tx_Z (A : Nat → Prop) (U : State) (H : Heap) : Prop := vx_Zq Bundle.tN "UNASSIGNED_STACK" Bundle.steD A U H ∧ vx_Zq Bundle.tN "SUPPRESSED_SENTINEL" Bundle.listD A U H
def tx_NW : List Jvm.Cond := Jvm.Cond.castable tx_E tx_E :: tx_at.filter fun w => !goodWord w
def tx_isO (w : Jvm.Cond) : Bool := match w with
  | .declares _ => true
  | .castable _ _ => true
  | _ => false
set_option maxRecDepth 20000 in
theorem tx_NW_in : (tx_NW.all fun w => decide (w ∈ lw_tbl) && tx_isO w) = true := by decide +kernel
theorem tx_NW_o {w : Jvm.Cond} (h : w ∈ tx_NW) : w ∈ lw_tbl ∧ tx_isO w = true := by
  have h1 := List.all_eq_true.mp tx_NW_in w h
  rw [Bool.and_eq_true] at h1
  exact ⟨of_decide_eq_true h1.1, h1.2⟩
def tx_S (U : State) : Prop := (∀ w ∈ tx_NW, va_Nw w U) ∧ (∃ a, vk_R RX10 115 "no such person" a U) ∧ (∃ a, vk_R RX10 147 "nothing else is told of a person" a U) ∧ (∃ a, vk_R RX10 152 "no such thing" a U) ∧ (∃ a, vk_R RX10 175 "nothing else is told of a thing" a U) ∧ ∃ a, vk_R RX10 436 "the row has no such number" a U
theorem tx_nw_warm {s U : State} (hN : ∀ w ∈ tx_NW, va_Nw w s) (hW : s.WarmedH U.vm) : ∀ w ∈ tx_NW, va_Nw w U := by
  intro w hw
  have h1 := (tx_NW_o hw).2
  have h2 := hN w hw
  cases w <;> first | exact va_Nw.warmD hW h2 | exact va_Nw.warmC hW h2 | cases h1
theorem tx_nw_same {u U : State} (hN : ∀ w ∈ tx_NW, va_Nw w u) (h : u.vm = U.vm) : ∀ w ∈ tx_NW, va_Nw w U := by
  intro w hw
  have h1 := (tx_NW_o hw).2
  have h2 := hN w hw
  refine va_Nw.same ?_ h h2
  cases w <;> first | rfl | cases h1
theorem tx_nw_use {s : State} {args : Array Value} (hN : ∀ w ∈ tx_NW, va_Nw w s) {w : Jvm.Cond} (hw : w ∈ tx_NW) : w.before args s = true := by
  have h1 := (tx_NW_o hw).2
  refine va_Nw.use ?_ (hN w hw)
  cases w <;> first | rfl | cases h1
theorem tx_nw_ot {w : Jvm.Cond} (hw : w ∈ tx_NW) : vx_ot w = true := by
  have h1 := (tx_NW_o hw).2
  cases w <;> first | rfl | cases h1
def tx_rm (d : Nat) : Room := { frames := d, cells := 1, slots := 6, locals := 40 * d }
def tx_X (D : va_G) (D3 : Nat → ClassId) (ad : Nat → Nat) (sz : Nat) (h : pH) : String → State → State → Prop := vx_X (fun _ : Unit => True) (fun E _ t => E = tx_E ∧ px_U D D3 ad h t) (px_A ad sz)
set_option maxRecDepth 20000 in
theorem tx_words : (((Jvm.Cond.classLink RX10 113 tx_E :: Jvm.Cond.initialized tx_E :: tx_at).filter goodWord).all fun w => decide (w ∈ lw_tbl)) = true := by decide +kernel
theorem tx_w1 : goodWord (Jvm.Cond.classLink RX10 113 tx_E) = true ∧ goodWord (Jvm.Cond.initialized tx_E) = true := ⟨rfl, rfl⟩
theorem tx_w {w : Jvm.Cond} (h : w ∈ Jvm.Cond.classLink RX10 113 tx_E :: Jvm.Cond.initialized tx_E :: tx_at) : (w ∈ px_TB ∧ goodWord w = true) ∨ w ∈ tx_NW := by
  by_cases g : goodWord w = true
  · exact Or.inl ⟨px_TB_of (of_decide_eq_true (List.all_eq_true.mp tx_words w (List.mem_filter.mpr ⟨h, g⟩))) g, g⟩
  · have g0 : (!goodWord w) = true := by simpa using g
    rcases List.mem_cons.mp h with rfl | h
    · exact absurd tx_w1.1 g
    · rcases List.mem_cons.mp h with rfl | h
      · exact absurd tx_w1.2 g
      · exact Or.inr (List.mem_cons_of_mem _ (List.mem_filter.mpr ⟨h, g0⟩))
theorem tx_wb {s : State} {args : Array Value} (hts : ∀ w ∈ px_TB, w.before args s = true) (hN : ∀ w ∈ tx_NW, va_Nw w s) {w : Jvm.Cond} (h : w ∈ Jvm.Cond.classLink RX10 113 tx_E :: Jvm.Cond.initialized tx_E :: tx_at) : w.before args s = true := by
  rcases tx_w h with h | h
  · exact hts w h.1
  · exact tx_nw_use hN h
theorem tx_wo {w : Jvm.Cond} (h : w ∈ Jvm.Cond.classLink RX10 113 tx_E :: Jvm.Cond.initialized tx_E :: tx_at) : vx_ot w = true := by
  rcases tx_w h with h | h
  · unfold vx_ot
    rw [h.2, Bool.or_true]
  · exact tx_nw_ot h
theorem tx_fit : Bundle.fit tx_E = true ∧ Bundle.fit tx_Y = true ∧ (tx_N.all fun n => Bundle.fit n) = true := by decide +kernel
theorem tx_rx : decode prog_21_method_4_code 0 = .ok (.aload_n 0, 1) ∧ decode prog_21_method_4_code 1 = .ok (.aload_n 1, 1) ∧ decode prog_21_method_4_code 2 = .ok (.invokespecial 13, 3) ∧ decode prog_21_method_4_code 5 = .ok (.return_, 1) := ⟨by decide +kernel, by decide +kernel, by decide +kernel, by decide +kernel⟩
section TXT
variable {p : Program} {l : Launch} {e : Env} {R : Room} {s : State} {m : MethodId} {args : Array Value} {below : List Frame} {meth : Method} {c : Code} {H : Heap} {locs : List Loc} {cells slots mc ms : Nat} {free : Addr → Prop} {ls : Array Slot} {rest : List Value} {Qc : Array Value → State → Outcome → State → Prop} {XC : String → State → State → Prop}
theorem tx_raise {cc : ByteArray} {pc is sa : Nat} {text : String} {A : Nat → Prop} (hexec : p.tables.exec = Jvm.exec) (hb : c.code = cc) (hl : l.stackTraces = false) (hown : s.vm.findClass RX10 = some m.cls) (hts : ∀ w ∈ px_TB, w.before args s = true) (hNW : ∀ w ∈ tx_NW, va_Nw w s) (hstr : vk_R RX10 is text sa s)
    (hU : vx_Zq Bundle.tN "UNASSIGNED_STACK" Bundle.steD A s s.heap) (hN : vx_Zq Bundle.tN "SUPPRESSED_SENTINEL" Bundle.listD A s s.heap) (hS : va_S A s.heap H locs) (hsize : ls.size = c.maxLocals)
    (d0 : decode cc pc = .ok (.new 113, 3)) (d3 : decode cc (pc + 3) = .ok (.dup, 1)) (d4 : decode cc (pc + 4) = .ok (.ldc is, 2)) (d6 : decode cc (pc + 4 + 2) = .ok (.invokespecial 117, 3)) (d9 : decode cc (pc + 4 + 2 + 3) = .ok (.athrow, 1))
    (hout : ∀ x ∈ c.exceptionTable.toList, covers x (pc + 4 + 2 + 3) = false) (hRf : 5 < R.frames) (hRl : (rest.map fun v => v.category).sum + 82 ≤ R.locals) (hRcells : cells + 1 ≤ R.cells) (hRslots : slots + 6 ≤ R.slots) (hlocks : meth.locks = false)
    (hx : ∀ t : State, s.vm.Alike t.vm → H.size ≤ t.heap.size → (∀ q : Nat, q < H.size → t.heap[q]? = H[q]?) → XC tx_E s t)
    (hf : ∀ z ∈ locs, free z.base) (hc : cells + 1 ≤ mc) (hs : slots + 6 ≤ ms) : W p l e R s m args below meth c H locs cells slots (vx_MQ below Qc XC args s mc ms free) (F0 m pc ls rest) := by
  intro T hT X
  have htr : e.platform.stackTraces = false := (show e.platform.stackTraces = l.stackTraces by rw [X.admits.platform]).trans hl
  have Y := vx_rebase X (R' := { frames := R.frames, locals := R.locals, cells := 1, slots := 6 }) (Nat.le_refl _) (Nat.le_refl _) hRcells hRslots
  obtain ⟨s', hA⟩ : ∃ z, z = (T.setVm s.vm).setFrames (.invoking m args :: below) := ⟨_, rfl⟩
  rw [← hA] at Y
  have hvm : s'.vm = s.vm := by rw [hA]; rfl
  have hhp : s'.heap = H := by rw [hA]; exact hT
  have hW0 : s.WarmedH s'.vm := by rw [hvm]; exact State.WarmedH.refl s
  have hat' : ∀ w ∈ tx_at, w.before args s' = true := fun w hw => vx_ot_at hW0 hvm.symm (tx_wo (List.mem_cons_of_mem _ (List.mem_cons_of_mem _ hw))) (tx_wb hts hNW (List.mem_cons_of_mem _ (List.mem_cons_of_mem _ hw)))
  have hk' : (Jvm.Cond.classLink RX10 113 tx_E).before args s' = true := vx_ot_at hW0 hvm.symm (tx_wo List.mem_cons_self) (tx_wb hts hNW List.mem_cons_self)
  have hini' : (Jvm.Cond.initialized tx_E).before args s' = true := vx_ot_at hW0 hvm.symm (tx_wo (List.mem_cons_of_mem _ List.mem_cons_self)) (tx_wb hts hNW (List.mem_cons_of_mem _ List.mem_cons_self))
  have hU' : vx_Zq Bundle.tN "UNASSIGNED_STACK" Bundle.steD A s' s'.heap := by rw [hhp]; exact vx_Zq.moved hW0.alike (hU.kept hS.2.1)
  have hN' : vx_Zq Bundle.tN "SUPPRESSED_SENTINEL" Bundle.listD A s' s'.heap := by rw [hhp]; exact vx_Zq.moved hW0.alike (hN.kept hS.2.1)
  have h : ∀ w ∈ tx_all, w.before args s' = true := vx_own hat' (vx_isRefq hU'.1) (vx_isRefq hN'.1) hU'.2.word hN'.2.word
  have hown' : s'.vm.findClass RX10 = some m.cls := by rw [hvm]; exact hown
  have hins : (Jvm.Cond.instantiable tx_E 6).before args s' = true := h _ (by simp [tx_all, tx_own])
  obtain ⟨vm₁, cX, kX, hfX, hkX, -, -, X₁, st1⟩ := Y.newCold hexec (own := RX10) (C := tx_E) (index := 113) (n := 6) hown' hk' hins hini'
    (g := F0 m pc ls rest) rfl (by rw [hb]; exact d0) (Nat.le_refl _) (Nat.le_refl _)
  generalize hT1 : (T.setVm vm₁).pushCell { cls := cX, slots := kX.instanceTypes.map defaultValue, vm := .none } = T1 at X₁ st1
  have hcat : (Value.ref T.heap.size).category = 1 := rfl
  have hcellA : T1.heap[T.heap.size]? = some (freshCell cX kX) := by rw [← hT1]; exact State.heap_pushCell_size _ _
  have d3' : decode c.code (pc + 3) = .ok (.dup, 1) := by rw [hb]; exact d3
  have d4' : decode c.code (pc + 4) = .ok (.ldc is, 2) := by rw [hb]; exact d4
  have hstr' : vk_R RX10 is text sa s' := vk_R.warm hW0 hstr
  obtain ⟨U, hsteps, hrun, hend, hW, hsame, ce, hce, hcc, hcv⟩ := tx_ctor X₁ hexec htr (own := RX10) (E := tx_E) (Y := tx_Y) (names := tx_N) (ic := 117) (ix := 13) (rx := prog_21_method_4_code) tx_rx.1 tx_rx.2.1 tx_rx.2.2.1 tx_rx.2.2.2 hown' tx_fit.1 tx_fit.2.1 (fun n hn => List.all_eq_true.mp tx_fit.2.2 n hn) h hfX hkX hcellA (by rw [hhp, hT]; exact Nat.le_refl _) (msg := .ref sa) rfl
    (g := { method := m, pc := pc + 4 + 2, locals := ls, stack := .ref sa :: .ref T.heap.size :: .ref T.heap.size :: rest, locked := none }) rfl hsize rfl rfl (rest := rest) rfl
    (by rw [hb]; exact d6) (by rw [hb]; exact d9) hout (show 1 + 4 < R.frames by omega) (by simp only [List.map_cons, List.sum_cons, hcat, tx_N, List.length_cons, List.length_nil]; show 0 + _ + _ ≤ R.locals; omega) hlocks
  obtain ⟨f1, f2⟩ := vx_frame hsame
  rw [hhp] at f1 f2
  have hWs : s.WarmedH U.vm := State.WarmedH.trans hW0 hW
  have hcl : s.vm.findClass tx_E = some ce.cls := by
    have h9 := hfX
    rw [hvm] at h9
    rw [hcc]
    exact h9
  have hall : s.sameButNew ({ U with vm := s.vm } : State) locs mc ms := by
    subst hA
    obtain ⟨e1, e2⟩ := hsame
    rw [State.setFrames_setFrames] at e1
    have h2 : (T.setVm s.vm).sameButNew ({ U with vm := s.vm } : State) [] (0 + 1) (0 + 6) := ⟨e1, e2⟩
    have h3 := X.same.trans h2
    rw [List.append_nil] at h3
    exact h3.mono hc hs
  refine ⟨U, ?_, .threw T.heap.size, hrun, hend, Or.inr ⟨T.heap.size, rfl, tx_E, ce, locs, hx U hWs.alike f1 (fun q hq => f2 q hq (fun z hz => nomatch hz)), hce, hcv, hcl, hWs, hall, hf⟩⟩
  refine st1 _ ?_
  show Steps p.tables e below (T1.setTop { method := m, pc := pc + 3, locals := ls, stack := .ref T.heap.size :: rest, locked := none }) _
  jvm_step X₁.here [X₁.here.top, hexec, d3', Value.category]
  exact X₁.ldcString hexec (own := RX10) (text := text) (index := is) (a := sa) hown' hstr'.1 hstr'.2
    (g := { method := m, pc := pc + 4, locals := ls, stack := .ref T.heap.size :: .ref T.heap.size :: rest, locked := none }) rfl d4' _ hsteps
end TXT
section TXT
variable {p : Program} {l : Launch} {e : Env} {R : Room} {s : State} {m : MethodId} {args : Array Value} {below : List Frame} {meth : Method} {c : Code} {H : Heap} {locs : List Loc} {cells slots mc ms : Nat} {free : Addr → Prop} {ls : Array Slot} {rest : List Value} {Qc : Array Value → State → Outcome → State → Prop} {XC : String → State → State → Prop}
theorem tx_raiseW {cc : ByteArray} {pc is sa : Nat} {text : String} {A : Nat → Prop} (hexec : p.tables.exec = Jvm.exec) (hb : c.code = cc) (hl : l.stackTraces = false) (hown : s.vm.findClass RX10 = some m.cls) (hts : ∀ w ∈ px_TB, w.before args s = true) (hNW : ∀ w ∈ tx_NW, va_Nw w s) (hstr : vk_R RX10 is text sa s)
    (hU : vx_Zq Bundle.tN "UNASSIGNED_STACK" Bundle.steD A s s.heap) (hN : vx_Zq Bundle.tN "SUPPRESSED_SENTINEL" Bundle.listD A s s.heap) (hS : va_S A s.heap H locs) (hsize : ls.size = c.maxLocals)
    (d0 : decode cc pc = .ok (.new 113, 3)) (d3 : decode cc (pc + 3) = .ok (.dup, 1)) (d4 : decode cc (pc + 4) = .ok (.ldc_w is, 3)) (d6 : decode cc (pc + 4 + 3) = .ok (.invokespecial 117, 3)) (d9 : decode cc (pc + 4 + 3 + 3) = .ok (.athrow, 1))
    (hout : ∀ x ∈ c.exceptionTable.toList, covers x (pc + 4 + 3 + 3) = false) (hRf : 5 < R.frames) (hRl : (rest.map fun v => v.category).sum + 82 ≤ R.locals) (hRcells : cells + 1 ≤ R.cells) (hRslots : slots + 6 ≤ R.slots) (hlocks : meth.locks = false)
    (hx : ∀ t : State, s.vm.Alike t.vm → H.size ≤ t.heap.size → (∀ q : Nat, q < H.size → t.heap[q]? = H[q]?) → XC tx_E s t)
    (hf : ∀ z ∈ locs, free z.base) (hc : cells + 1 ≤ mc) (hs : slots + 6 ≤ ms) : W p l e R s m args below meth c H locs cells slots (vx_MQ below Qc XC args s mc ms free) (F0 m pc ls rest) := by
  intro T hT X
  have htr : e.platform.stackTraces = false := (show e.platform.stackTraces = l.stackTraces by rw [X.admits.platform]).trans hl
  have Y := vx_rebase X (R' := { frames := R.frames, locals := R.locals, cells := 1, slots := 6 }) (Nat.le_refl _) (Nat.le_refl _) hRcells hRslots
  obtain ⟨s', hA⟩ : ∃ z, z = (T.setVm s.vm).setFrames (.invoking m args :: below) := ⟨_, rfl⟩
  rw [← hA] at Y
  have hvm : s'.vm = s.vm := by rw [hA]; rfl
  have hhp : s'.heap = H := by rw [hA]; exact hT
  have hW0 : s.WarmedH s'.vm := by rw [hvm]; exact State.WarmedH.refl s
  have hat' : ∀ w ∈ tx_at, w.before args s' = true := fun w hw => vx_ot_at hW0 hvm.symm (tx_wo (List.mem_cons_of_mem _ (List.mem_cons_of_mem _ hw))) (tx_wb hts hNW (List.mem_cons_of_mem _ (List.mem_cons_of_mem _ hw)))
  have hk' : (Jvm.Cond.classLink RX10 113 tx_E).before args s' = true := vx_ot_at hW0 hvm.symm (tx_wo List.mem_cons_self) (tx_wb hts hNW List.mem_cons_self)
  have hini' : (Jvm.Cond.initialized tx_E).before args s' = true := vx_ot_at hW0 hvm.symm (tx_wo (List.mem_cons_of_mem _ List.mem_cons_self)) (tx_wb hts hNW (List.mem_cons_of_mem _ List.mem_cons_self))
  have hU' : vx_Zq Bundle.tN "UNASSIGNED_STACK" Bundle.steD A s' s'.heap := by rw [hhp]; exact vx_Zq.moved hW0.alike (hU.kept hS.2.1)
  have hN' : vx_Zq Bundle.tN "SUPPRESSED_SENTINEL" Bundle.listD A s' s'.heap := by rw [hhp]; exact vx_Zq.moved hW0.alike (hN.kept hS.2.1)
  have h : ∀ w ∈ tx_all, w.before args s' = true := vx_own hat' (vx_isRefq hU'.1) (vx_isRefq hN'.1) hU'.2.word hN'.2.word
  have hown' : s'.vm.findClass RX10 = some m.cls := by rw [hvm]; exact hown
  have hins : (Jvm.Cond.instantiable tx_E 6).before args s' = true := h _ (by simp [tx_all, tx_own])
  obtain ⟨vm₁, cX, kX, hfX, hkX, -, -, X₁, st1⟩ := Y.newCold hexec (own := RX10) (C := tx_E) (index := 113) (n := 6) hown' hk' hins hini'
    (g := F0 m pc ls rest) rfl (by rw [hb]; exact d0) (Nat.le_refl _) (Nat.le_refl _)
  generalize hT1 : (T.setVm vm₁).pushCell { cls := cX, slots := kX.instanceTypes.map defaultValue, vm := .none } = T1 at X₁ st1
  have hcat : (Value.ref T.heap.size).category = 1 := rfl
  have hcellA : T1.heap[T.heap.size]? = some (freshCell cX kX) := by rw [← hT1]; exact State.heap_pushCell_size _ _
  have d3' : decode c.code (pc + 3) = .ok (.dup, 1) := by rw [hb]; exact d3
  have d4' : decode c.code (pc + 4) = .ok (.ldc_w is, 3) := by rw [hb]; exact d4
  have hstr' : vk_R RX10 is text sa s' := vk_R.warm hW0 hstr
  obtain ⟨U, hsteps, hrun, hend, hW, hsame, ce, hce, hcc, hcv⟩ := tx_ctor X₁ hexec htr (own := RX10) (E := tx_E) (Y := tx_Y) (names := tx_N) (ic := 117) (ix := 13) (rx := prog_21_method_4_code) tx_rx.1 tx_rx.2.1 tx_rx.2.2.1 tx_rx.2.2.2 hown' tx_fit.1 tx_fit.2.1 (fun n hn => List.all_eq_true.mp tx_fit.2.2 n hn) h hfX hkX hcellA (by rw [hhp, hT]; exact Nat.le_refl _) (msg := .ref sa) rfl
    (g := { method := m, pc := pc + 4 + 3, locals := ls, stack := .ref sa :: .ref T.heap.size :: .ref T.heap.size :: rest, locked := none }) rfl hsize rfl rfl (rest := rest) rfl
    (by rw [hb]; exact d6) (by rw [hb]; exact d9) hout (show 1 + 4 < R.frames by omega) (by simp only [List.map_cons, List.sum_cons, hcat, tx_N, List.length_cons, List.length_nil]; show 0 + _ + _ ≤ R.locals; omega) hlocks
  obtain ⟨f1, f2⟩ := vx_frame hsame
  rw [hhp] at f1 f2
  have hWs : s.WarmedH U.vm := State.WarmedH.trans hW0 hW
  have hcl : s.vm.findClass tx_E = some ce.cls := by
    have h9 := hfX
    rw [hvm] at h9
    rw [hcc]
    exact h9
  have hall : s.sameButNew ({ U with vm := s.vm } : State) locs mc ms := by
    subst hA
    obtain ⟨e1, e2⟩ := hsame
    rw [State.setFrames_setFrames] at e1
    have h2 : (T.setVm s.vm).sameButNew ({ U with vm := s.vm } : State) [] (0 + 1) (0 + 6) := ⟨e1, e2⟩
    have h3 := X.same.trans h2
    rw [List.append_nil] at h3
    exact h3.mono hc hs
  refine ⟨U, ?_, .threw T.heap.size, hrun, hend, Or.inr ⟨T.heap.size, rfl, tx_E, ce, locs, hx U hWs.alike f1 (fun q hq => f2 q hq (fun z hz => nomatch hz)), hce, hcv, hcl, hWs, hall, hf⟩⟩
  refine st1 _ ?_
  show Steps p.tables e below (T1.setTop { method := m, pc := pc + 3, locals := ls, stack := .ref T.heap.size :: rest, locked := none }) _
  jvm_step X₁.here [X₁.here.top, hexec, d3', Value.category]
  exact X₁.ldcStringW hexec (own := RX10) (text := text) (index := is) (a := sa) hown' hstr'.1 hstr'.2
    (g := { method := m, pc := pc + 4, locals := ls, stack := .ref T.heap.size :: .ref T.heap.size :: rest, locked := none }) rfl d4' _ hsteps
end TXT
def tx_G (d : Nat) (M : pM) (pc : Nat) (ls : pL) (st : List pV) (h : pH) : Prop :=
  ∀ (p : Program) (l : Launch) (e : Env) (s : State) (m : MethodId) (args : Array Value) (below : List Frame) (meth : Method) (c : Code) (D : va_G) (D3 : Nat → ClassId) (ad : Nat → Nat) (H : Heap) (locs : List Loc) (lsA : Array Slot),
    px_Fix M p s m args meth c D D3 ad → l.stackTraces = false → (∀ x ∈ c.exceptionTable.toList, False) → tx_Z (px_A ad s.heap.size) s s.heap → tx_S s → va_P D px_cl (px_ws D3 ad h) H → va_S (px_A ad s.heap.size) s.heap H locs → px_has ad lsA M.2.2.1 ls →
    W p l e (tx_rm d) s m args below meth c H locs 0 0 (vx_MQ below (fun _ _ _ _ => False) (tx_X D D3 ad s.heap.size h) args s 1 6 (px_A ad s.heap.size)) (F0 m pc lsA (st.map (pv ad)))
theorem tx_end {D : va_G} {D3 : Nat → ClassId} {ad : Nat → Nat} {s t : State} {H : Heap} {locs : List Loc} {h : pH} (hK : va_K D px_cl (px_tys D3) s) (hP : va_P D px_cl (px_ws D3 ad h) H) (hS : va_S (px_A ad s.heap.size) s.heap H locs) (hW : s.vm.Alike t.vm) (h1 : H.size ≤ t.heap.size) (h2 : ∀ q : Nat, q < H.size → t.heap[q]? = H[q]?) : tx_X D D3 ad s.heap.size h tx_E s t :=
  ⟨(), trivial, ⟨rfl, hP.kept fun k x hx => h2 x.1 (hP k x hx).lt, va_K.moved hW hK⟩, Nat.le_trans hS.1 h1, fun q hq hA => (h2 q (Nat.lt_of_lt_of_le hq hS.1)).trans (hS.2.1 q hq hA)⟩
theorem tx_t {d : Nat} {M : pM} {pc is : Nat} {tx : String} {h : pH} {ls : pL} (hd6 : 6 ≤ d) (hM : M.1.1 = RX10) (hs : ∀ U, tx_S U → ∃ a, vk_R RX10 is tx a U) (d0 : decode M.2.1 pc = .ok (.new 113, 3)) (d3 : decode M.2.1 (pc + 3) = .ok (.dup, 1)) (d4 : decode M.2.1 (pc + 4) = .ok (.ldc is, 2)) (d6 : decode M.2.1 (pc + 6) = .ok (.invokespecial 117, 3)) (d9 : decode M.2.1 (pc + 9) = .ok (.athrow, 1)) : tx_G d M pc ls [] h := by
  intro p l e s m args below meth c D D3 ad H locs lsA hF hl ht hZ hSt hP hS hh
  obtain ⟨hx, hb, hml, hr, hown, hts, hlocks, hK, hN, hi⟩ := id hF
  rw [hM] at hown
  obtain ⟨sa, hsa⟩ := hs s hSt
  exact tx_raise (sa := sa) (A := px_A ad s.heap.size) hx hb hl hown hts hSt.1 hsa hZ.1 hZ.2 hS (hh.1.trans hml.symm) d0 d3 d4 d6 d9 (fun x hx9 => (ht x hx9).elim) (show 5 < d by omega) (show 0 + 82 ≤ 40 * d by omega) (Nat.le_refl _) (Nat.le_refl _) hlocks (fun t hW h1 h2 => tx_end hK hP hS hW h1 h2) hS.2.2 (Nat.le_refl _) (Nat.le_refl _)
theorem tx_tw {d : Nat} {M : pM} {pc is : Nat} {tx : String} {h : pH} {ls : pL} (hd6 : 6 ≤ d) (hM : M.1.1 = RX10) (hs : ∀ U, tx_S U → ∃ a, vk_R RX10 is tx a U) (d0 : decode M.2.1 pc = .ok (.new 113, 3)) (d3 : decode M.2.1 (pc + 3) = .ok (.dup, 1)) (d4 : decode M.2.1 (pc + 4) = .ok (.ldc_w is, 3)) (d6 : decode M.2.1 (pc + 7) = .ok (.invokespecial 117, 3)) (d9 : decode M.2.1 (pc + 10) = .ok (.athrow, 1)) : tx_G d M pc ls [] h := by
  intro p l e s m args below meth c D D3 ad H locs lsA hF hl ht hZ hSt hP hS hh
  obtain ⟨hx, hb, hml, hr, hown, hts, hlocks, hK, hN, hi⟩ := id hF
  rw [hM] at hown
  obtain ⟨sa, hsa⟩ := hs s hSt
  exact tx_raiseW (sa := sa) (A := px_A ad s.heap.size) hx hb hl hown hts hSt.1 hsa hZ.1 hZ.2 hS (hh.1.trans hml.symm) d0 d3 d4 d6 d9 (fun x hx9 => (ht x hx9).elim) (show 5 < d by omega) (show 0 + 82 ≤ 40 * d by omega) (Nat.le_refl _) (Nat.le_refl _) hlocks (fun t hW h1 h2 => tx_end hK hP hS hW h1 h2) hS.2.2 (Nat.le_refl _) (Nat.le_refl _)
section TXG
variable {p : Program} {l : Launch} {e0 : Env} {R : Room} {s : State} {m : MethodId} {args : Array Value} {below : List Frame} {meth : Method} {c : Code} {D : va_G} {D3 : Nat → ClassId} {ad : Nat → Nat} {H : Heap} {locs : List Loc} {cells slots : Nat} {lsA : Array Slot} {Q : State → Prop}
/-- a field is read -/
theorem tx_get {X : pX} {cc : ByteArray} {pc j a : Nat} {qq : Nat × Nat × Nat} {st : List Value} {h : pH} {v : Value} (hx : p.tables.exec = Jvm.exec) (hb : c.code = cc) (hown : s.vm.findClass X.1 = some m.cls) (hts : ∀ w ∈ px_TB, w.before args s = true) (hK : va_K D px_cl (px_tys D3) s) (hN : ∀ w ∈ px_TN, va_Nw w s) (hM : px_ctxB X = true) (hj : px_find X.2.1 j = some qq) (ha : a < px_N) (ht : px_tag a = qq.1 + 10) (hk : qq.2.1 < px_len a) (hv : px_fv ad h a qq.2.1 = v)
    (hP : va_P D px_cl (px_ws D3 ad h) H) (hd : decode cc pc = .ok (.getfield j, 3)) (kk : W p l e0 R s m args below meth c H locs cells slots Q (F0 m (pc + 3) lsA (v :: st))) : W p l e0 R s m args below meth c H locs cells slots Q (F0 m pc lsA (.ref (ad a) :: st)) := by
  obtain ⟨cr, hcr, hkN, hT, hl⟩ := px_ctx_f hM hj
  have hin : ∀ w ∈ u_ws cr.1 cr.2.1 cr.2.2, w ∈ px_TB := px_cl_in hcr
  have hsame : ∀ x, s.fieldFound? (cr.2.1 qq.2.1).1 (cr.2.1 qq.2.1).2.1 (cr.2.1 qq.2.1).2.2.1 = some x → s.fieldFound? cr.1 (cr.2.1 qq.2.1).2.1 (cr.2.1 qq.2.1).2.2.1 = some x := fun x hx9 => by rw [← hT]; exact hx9
  have hvv := px_fs_at (ad := ad) (h := h) hk
  rw [hv] at hvv
  rcases hl with hl | hl
  · exact va_get hx hb hts hin hown hK hP a (px_ws_obj ha ht) hcr qq.2.1 hkN (hts _ hl) hsame hvv hd kk
  · exact va_getN hx hb hts hin hown hK hP a (px_ws_obj ha ht) hcr qq.2.1 hkN (va_Nw.use rfl (hN _ hl)) hsame hvv hd kk
end TXG
section TXN
variable {p : Program} {l : Launch} {e0 : Env} {R : Room} {s : State} {m : MethodId} {args : Array Value} {below : List Frame} {meth : Method} {c : Code} {D : va_G} {D3 : Nat → ClassId} {ad : Nat → Nat} {H : Heap} {locs : List Loc} {cells slots : Nat} {lsA : Array Slot}
/-- the same for a link within the nest -/
theorem tx_callN {d id idx : Nat} {y : MethodName} {b : ByteArray} {nLc : Nat} {rtc : Option FieldType} {np ci nL : Nat} {cc : ByteArray} {own : String} {h : pH} {q : Int32 × pH} {pc a0 : Nat} {as : List pV} {r : List Value} {Q : State → Prop} {A : Nat → Prop}
    (hx : p.tables.exec = Jvm.exec) (hb : c.code = cc) (hml : c.maxLocals = nL) (hown : s.vm.findClass own = some m.cls) (hts : ∀ w ∈ px_TB, w.before args s = true) (hK : va_K D px_cl (px_tys D3) s) (hN : ∀ w ∈ px_TN, va_Nw w s) (hi : px_inj ad)
    (hR : d + 1 ≤ R.frames ∧ 40 * (d + 1) ≤ R.locals) (hce : cells ≤ R.cells ∧ slots ≤ R.slots)
    (hid : px_nth px_mt id = some (y, b, nLc, rtc, false, np, ci)) (hl : Jvm.Cond.methodLinkNest own idx y "WordsUnsaid" ∈ px_TN) (hC : px_Con d id (.inr (.inl a0) :: as) h q)
    (hP : va_P D px_cl (px_ws D3 ad h) H) (hS : va_S A s.heap H locs) (hA : ∀ z, s.heap.size ≤ z → A z) (hadA : ∀ a, a < px_N → A (ad a)) (hsz : lsA.size = nL)
    (hd : decode cc pc = .ok (.invokevirtual idx, 3)) (hn : as.length = np) (ht : px_tag a0 = ci + 10) (hlow : (r.map fun v => v.category).sum ≤ 8)
    (kk : ∀ (H1 : Heap) (locs1 : List Loc), va_P D px_cl (px_ws D3 ad q.2) H1 → (∀ z : Nat, z < H.size → ¬ px_A ad H.size z → H1[z]? = H[z]?) → H.size ≤ H1.size → va_S A s.heap H1 locs1 → W p l e0 R s m args below meth c H1 locs1 cells slots Q (F0 m (pc + 3) lsA (px_push rtc q.1 r))) : W p l e0 R s m args below meth c H locs cells slots Q (F0 m pc lsA (as.reverse.map (pv ad) ++ .ref (ad a0) :: r)) := by
  obtain ⟨hc, hini, hy, hpl, h20, -, hv⟩ := px_mr_parts hid
  obtain ⟨hins, hsel, r2, hr2, hcl⟩ := hv rfl
  unfold px_Con at hC
  rw [hid] at hC
  have hM := hC l D D3 ad H.size hi
  have hrecv := px_recv hK hP ht hr2
  rw [hcl] at hrecv
  have hp : PreV s H y.cls (ad a0) (px_Pre D D3 ad H.size h (.inr (.inl a0) :: as)) (as.map (pv ad)) := ⟨px_blind, hrecv, fun U hU hW => px_pre_at hP hK hN hU hW⟩
  have hst : (F0 m pc lsA (as.reverse.map (pv ad) ++ .ref (ad a0) :: r)).stack = (as.map (pv ad)).reverse ++ .ref (ad a0) :: r := by
    show as.reverse.map (pv ad) ++ .ref (ad a0) :: r = _
    rw [List.map_reverse]
  have hroom : (px_rm d).frames + 1 ≤ R.frames ∧ 8 + (nLc + 11) + (px_rm d).locals ≤ R.locals := ⟨hR.1, by
    show 8 + (nLc + 11) + 40 * d ≤ R.locals
    have := hR.2
    omega⟩
  have hrun : va_Run p l e0 R s m args below meth c H locs cells slots 0 0 (F0 m pc lsA (as.reverse.map (pv ad) ++ .ref (ad a0) :: r)) r (px_Q D D3 ad H.size rtc q (Value.ref (ad a0) :: as.map (pv ad)).toArray) (px_A ad H.size) :=
    va_runVN ⟨hx, hb, hml, hown, hts⟩ hM ⟨va_cnB np hts (px_good_ws hc) rfl rfl rfl (hN _ hl) (hts _ hini) hy hroom, hts _ hins, hts _ hsel⟩ hp rfl (by rw [List.length_map]; exact hn) hsz hst (lv_room hlow) hd hce
  have hAA : ∀ z : Nat, px_A ad H.size z → A z := fun z h => by
    rcases h with ⟨a, ha, rfl⟩ | h
    · exact hadA a ha
    · exact hA z (Nat.le_trans hS.1 h)
  cases rtc with
  | none =>
    exact va_callv (a := (Value.ref (ad a0) :: as.map (pv ad)).toArray) hrun hS (fun q _ h => hAA q h) hAA (fun u t H1 locs1 ht hvm hp hB hz hk hS1 => by
      obtain ⟨hB1, -⟩ := hB
      rw [ht, hp] at hB1
      exact kk H1 locs1 hB1 hk hz hS1)
  | some ty =>
    exact va_calli (a := (Value.ref (ad a0) :: as.map (pv ad)).toArray) hrun hS (fun q _ h => hAA q h) hAA (fun r9 u t H1 locs1 ht hvm hp hB hz hk hS1 => by
      obtain ⟨hB1, -⟩ := hB
      rw [ht, hp.2] at hB1
      rw [hp.1]
      exact kk H1 locs1 hB1 hk hz hS1)
end TXN
theorem tx_pd {cc : ByteArray} {code : pCode} {pc : Nat} {i : Instr} {n : Nat} (hc : px_code cc code = true) (h : px_find code pc = some (i, n)) : decode cc pc = .ok (i, n) := of_decide_eq_true (List.all_eq_true.mp hc (pc, i, n) (px_find_mem h))
theorem tx_none {x : Int32} {n : Nat} (hn : n < 100) (h : ∀ k : Nat, k < n → ¬ x = nI k) : x.toInt < 0 ∨ (n : Int) - 1 < x.toInt := by
  by_cases q : x.toInt < 0
  · exact Or.inl q
  · by_cases q2 : (n : Int) - 1 < x.toInt
    · exact Or.inr q2
    · refine absurd ?_ (h x.toInt.toNat (by omega))
      refine Int32.toInt_inj.mp ?_
      rw [nI_toInt (by omega)]
      omega
set_option maxRecDepth 20000 in
theorem tx_person {d : Nat} {x1 x2 : Int32} {h : pH} (hd : 4 ≤ d) (hq : hs_hasPerson x1 h = some (0, h) ∨ (hs_hasPerson x1 h = some (nI 1, h) ∧ ∀ k : Nat, k < 6 → ¬ x2 = nI k)) : tx_G (d + 2) (pX_RX10, prog_1_method_7_code, 3, some .int) 0 [some (.inr (.inl 0)), some (.inl x1), some (.inl x2)] [] h := by
  intro p l e s m args below meth c D D3 ad H locs lsA hF hl ht hZ hSt hP hS hh
  obtain ⟨hx, hb, hml, hr, hown, hts, hlocks, hK, hN, hi⟩ := id hF
  obtain ⟨z, hz, hzc⟩ : ∃ z, hs_hasPerson x1 h = some (z, h) ∧ (z = 0 ∨ (¬ z = 0 ∧ ∀ k : Nat, k < 6 → ¬ x2 = nI k)) := by
    rcases hq with hq | ⟨hq, hk⟩
    · exact ⟨_, hq, Or.inl rfl⟩
    · exact ⟨_, hq, Or.inr ⟨by decide, hk⟩⟩
  refine lv_aload_n hx hb (tx_pd wu_person_code_ok rfl) rfl (hh.2.2.2 0 (.inr (.inl 0)) rfl) ?_
  refine tx_get (X := pX_RX10) (a := 0) (j := 19) hx hb hown hts hK hN pX_ok_RX10 rfl (by decide) rfl (by decide) rfl hP (tx_pd wu_person_code_ok rfl) ?_
  refine lv_iload_n hx hb (tx_pd wu_person_code_ok rfl) rfl (hh.2.2.2 1 (.inl x1) rfl) ?_
  refine tx_callN (d := d + 1) (id := 25) (own := RX10) (as := [.inl x1]) (a0 := 3) (r := []) (A := px_A ad s.heap.size) hx hb hml hown hts hK hN hi ⟨Nat.le_refl _, Nat.le_refl _⟩ ⟨Nat.zero_le _, Nat.zero_le _⟩ rfl (px_TN_of (List.mem_of_getElem? (i := 824) rfl) rfl) (hs_hasPerson_ok (d := d) hz) hP hS (fun z hz => Or.inr hz) (fun a ha => Or.inl ⟨a, ha, rfl⟩) hh.1 (tx_pd wu_person_code_ok rfl) rfl rfl (Nat.zero_le _) (fun H1 locs1 hP1 hk hsz hS1 => ?_)
  refine lv_if_ne (tgt := 21) hx hb (tx_pd wu_person_code_ok rfl) rfl (fun hne => ?_) (fun h0 => ?_)
  · have hk6 : ∀ k : Nat, k < 6 → ¬ x2 = nI k := by
      rcases hzc with h9 | h9
      · exact absurd h9 hne
      · exact h9.2
    refine lv_iload_n hx hb (tx_pd wu_person_code_ok rfl) rfl (hh.2.2.2 2 (.inl x2) rfl) ?_
    refine lv_tableOut (tgt := 134) hx hb (tx_pd wu_person_code_ok rfl) (tx_none (n := 6) (by decide) hk6) rfl ?_
    exact tx_t (pc := 134) (is := 147) (M := (pX_RX10, prog_1_method_7_code, 3, some .int)) (by omega) rfl (fun U hU => hU.2.2.1) (tx_pd wu_person_code_ok rfl) (tx_pd wu_person_code_ok rfl) (tx_pd wu_person_code_ok rfl) (tx_pd wu_person_code_ok rfl) (tx_pd wu_person_code_ok rfl) p l e s m args below meth c D D3 ad H1 locs1 lsA hF hl ht hZ hSt hP1 hS1 hh
  · exact tx_t (pc := 11) (is := 115) (M := (pX_RX10, prog_1_method_7_code, 3, some .int)) (by omega) rfl (fun U hU => hU.2.1) (tx_pd wu_person_code_ok rfl) (tx_pd wu_person_code_ok rfl) (tx_pd wu_person_code_ok rfl) (tx_pd wu_person_code_ok rfl) (tx_pd wu_person_code_ok rfl) p l e s m args below meth c D D3 ad H1 locs1 lsA hF hl ht hZ hSt hP1 hS1 hh
set_option maxRecDepth 20000 in
theorem tx_thing {d : Nat} {x1 x2 : Int32} {h : pH} (hd : 4 ≤ d) (hq : hs_hasThing x1 h = some (0, h) ∨ (hs_hasThing x1 h = some (nI 1, h) ∧ ∀ k : Nat, k < 7 → ¬ x2 = nI k)) : tx_G (d + 2) (pX_RX10, prog_1_method_8_code, 3, some .int) 0 [some (.inr (.inl 0)), some (.inl x1), some (.inl x2)] [] h := by
  intro p l e s m args below meth c D D3 ad H locs lsA hF hl ht hZ hSt hP hS hh
  obtain ⟨hx, hb, hml, hr, hown, hts, hlocks, hK, hN, hi⟩ := id hF
  obtain ⟨z, hz, hzc⟩ : ∃ z, hs_hasThing x1 h = some (z, h) ∧ (z = 0 ∨ (¬ z = 0 ∧ ∀ k : Nat, k < 7 → ¬ x2 = nI k)) := by
    rcases hq with hq | ⟨hq, hk⟩
    · exact ⟨_, hq, Or.inl rfl⟩
    · exact ⟨_, hq, Or.inr ⟨by decide, hk⟩⟩
  refine lv_aload_n hx hb (tx_pd wu_thing_code_ok rfl) rfl (hh.2.2.2 0 (.inr (.inl 0)) rfl) ?_
  refine tx_get (X := pX_RX10) (a := 0) (j := 19) hx hb hown hts hK hN pX_ok_RX10 rfl (by decide) rfl (by decide) rfl hP (tx_pd wu_thing_code_ok rfl) ?_
  refine lv_iload_n hx hb (tx_pd wu_thing_code_ok rfl) rfl (hh.2.2.2 1 (.inl x1) rfl) ?_
  refine tx_callN (d := d + 1) (id := 26) (own := RX10) (as := [.inl x1]) (a0 := 3) (r := []) (A := px_A ad s.heap.size) hx hb hml hown hts hK hN hi ⟨Nat.le_refl _, Nat.le_refl _⟩ ⟨Nat.zero_le _, Nat.zero_le _⟩ rfl (px_TN_of (List.mem_of_getElem? (i := 1488) rfl) rfl) (hs_hasThing_ok (d := d) hz) hP hS (fun z hz => Or.inr hz) (fun a ha => Or.inl ⟨a, ha, rfl⟩) hh.1 (tx_pd wu_thing_code_ok rfl) rfl rfl (Nat.zero_le _) (fun H1 locs1 hP1 hk hsz hS1 => ?_)
  refine lv_if_ne (tgt := 21) hx hb (tx_pd wu_thing_code_ok rfl) rfl (fun hne => ?_) (fun h0 => ?_)
  · have hk6 : ∀ k : Nat, k < 7 → ¬ x2 = nI k := by
      rcases hzc with h9 | h9
      · exact absurd h9 hne
      · exact h9.2
    refine lv_iload_n hx hb (tx_pd wu_thing_code_ok rfl) rfl (hh.2.2.2 2 (.inl x2) rfl) ?_
    refine lv_tableOut (tgt := 148) hx hb (tx_pd wu_thing_code_ok rfl) (tx_none (n := 7) (by decide) hk6) rfl ?_
    exact tx_t (pc := 148) (is := 175) (M := (pX_RX10, prog_1_method_8_code, 3, some .int)) (by omega) rfl (fun U hU => hU.2.2.2.2.1) (tx_pd wu_thing_code_ok rfl) (tx_pd wu_thing_code_ok rfl) (tx_pd wu_thing_code_ok rfl) (tx_pd wu_thing_code_ok rfl) (tx_pd wu_thing_code_ok rfl) p l e s m args below meth c D D3 ad H1 locs1 lsA hF hl ht hZ hSt hP1 hS1 hh
  · exact tx_t (pc := 11) (is := 152) (M := (pX_RX10, prog_1_method_8_code, 3, some .int)) (by omega) rfl (fun U hU => hU.2.2.2.1) (tx_pd wu_thing_code_ok rfl) (tx_pd wu_thing_code_ok rfl) (tx_pd wu_thing_code_ok rfl) (tx_pd wu_thing_code_ok rfl) (tx_pd wu_thing_code_ok rfl) p l e s m args below meth c D D3 ad H1 locs1 lsA hF hl ht hZ hSt hP1 hS1 hh
set_option maxRecDepth 20000 in
theorem tx_row {d : Nat} {x1 : Int32} {h : pH} (hd : 4 ≤ d) (hq : x1 < 0 ∨ ¬ x1 < h 45 1) : tx_G (d + 2) (pX_RX10, prog_1_method_39_code, 2, some .int) 0 [some (.inr (.inl 0)), some (.inl x1)] [] h := by
  intro p l e s m args below meth c D D3 ad H locs lsA hF hl ht hZ hSt hP hS hh
  obtain ⟨hx, hb, hml, hr, hown, hts, hlocks, hK, hN, hi⟩ := id hF
  have hend := tx_tw (d := d + 2) (h := h) (ls := [some (.inr (.inl 0)), some (.inl x1)]) (pc := 15) (is := 436) (M := (pX_RX10, prog_1_method_39_code, 2, some .int)) (by omega) rfl (fun U hU => hU.2.2.2.2.2) (tx_pd wu_row_code_ok rfl) (tx_pd wu_row_code_ok rfl) (tx_pd wu_row_code_ok rfl) (tx_pd wu_row_code_ok rfl) (tx_pd wu_row_code_ok rfl) p l e s m args below meth c D D3 ad H locs lsA hF hl ht hZ hSt hP hS hh
  refine lv_iload_n hx hb (tx_pd wu_row_code_ok rfl) rfl (hh.2.2.2 1 (.inl x1) rfl) ?_
  refine lv_if_lt (tgt := 15) hx hb (tx_pd wu_row_code_ok rfl) rfl (fun hne => hend) (fun h0 => ?_)
  refine lv_iload_n hx hb (tx_pd wu_row_code_ok rfl) rfl (hh.2.2.2 1 (.inl x1) rfl) ?_
  refine lv_aload_n hx hb (tx_pd wu_row_code_ok rfl) rfl (hh.2.2.2 0 (.inr (.inl 0)) rfl) ?_
  refine tx_get (X := pX_RX10) (a := 0) (j := 75) hx hb hown hts hK hN pX_ok_RX10 rfl (by decide) rfl (by decide) rfl hP (tx_pd wu_row_code_ok rfl) ?_
  refine tx_get (X := pX_RX10) (a := 45) (j := 435) hx hb hown hts hK hN pX_ok_RX10 rfl (by decide) rfl (by decide) rfl hP (tx_pd wu_row_code_ok rfl) ?_
  refine lv_icmp_lt (tgt := 26) hx hb (tx_pd wu_row_code_ok rfl) rfl (fun hlt => ?_) (fun hge => hend)
  rcases hq with hq | hq
  · exact absurd hq h0
  · exact absurd hlt hq
/-! their contracts -/
def tx_Pre (D : va_G) (D3 : Nat → ClassId) (ad : Nat → Nat) (sz : Nat) (h : pH) (a : List pV) : Array Value → State → Prop := va_Pc (a.map (pv ad)) (fun U => U.heap.size = sz ∧ va_P D px_cl (px_ws D3 ad h) U.heap ∧ va_K D px_cl (px_tys D3) U ∧ (∀ w ∈ px_TN, va_Nw w U) ∧ tx_Z (px_A ad sz) U U.heap ∧ tx_S U)
theorem tx_S.same {u U : State} (h : tx_S u) (hv : U.vm = u.vm) : tx_S U := by
  obtain ⟨h0, ⟨a1, h1⟩, ⟨a2, h2⟩, ⟨a3, h3⟩, ⟨a4, h4⟩, ⟨a5, h5⟩⟩ := h
  exact ⟨tx_nw_same h0 hv.symm, ⟨a1, vk_R.same hv h1⟩, ⟨a2, vk_R.same hv h2⟩, ⟨a3, vk_R.same hv h3⟩, ⟨a4, vk_R.same hv h4⟩, ⟨a5, vk_R.same hv h5⟩⟩
theorem tx_S.warm {s U : State} (h : tx_S s) (hW : s.WarmedH U.vm) : tx_S U := by
  obtain ⟨h0, ⟨a1, h1⟩, ⟨a2, h2⟩, ⟨a3, h3⟩, ⟨a4, h4⟩, ⟨a5, h5⟩⟩ := h
  exact ⟨tx_nw_warm h0 hW, ⟨a1, vk_R.warm hW h1⟩, ⟨a2, vk_R.warm hW h2⟩, ⟨a3, vk_R.warm hW h3⟩, ⟨a4, vk_R.warm hW h4⟩, ⟨a5, vk_R.warm hW h5⟩⟩
theorem tx_Z.moved {A : Nat → Prop} {u U : State} {H : Heap} (h : tx_Z A u H) (hvm : u.vm.Alike U.vm) : tx_Z A U H := ⟨vx_Zq.moved hvm h.1, vx_Zq.moved hvm h.2⟩
theorem tx_Z.kept {A : Nat → Prop} {U : State} {H H1 : Heap} (h : tx_Z A U H) (hq : ∀ a : Nat, a < H.size → ¬ A a → H1[a]? = H[a]?) : tx_Z A U H1 := ⟨vx_Zq.kept h.1 hq, vx_Zq.kept h.2 hq⟩
theorem tx_Z.narrow {A B : Nat → Prop} {U : State} {H : Heap} (h : tx_Z A U H) (hAB : ∀ q, B q → A q) : tx_Z B U H := ⟨vx_Zq.narrow h.1 hAB, vx_Zq.narrow h.2 hAB⟩
theorem tx_blind {D : va_G} {D3 : Nat → ClassId} {ad : Nat → Nat} {sz : Nat} {h : pH} {a : List pV} : FrameBlind (tx_Pre D D3 ad sz h a) := fun a U g mk q => by
  obtain ⟨q0, q1, qP, qK, qN, qZ, qS⟩ := q
  exact ⟨q0, q1, qP, va_K.moved (u := U) (U := U.calling g mk a) (Vm.Alike.refl U.vm) qK, px_Nw_same (u := U) (U := U.calling g mk a) qN rfl, tx_Z.moved (u := U) (U := U.calling g mk a) qZ (Vm.Alike.refl U.vm), tx_S.same (u := U) (U := U.calling g mk a) qS rfl⟩
def tx_Con (d id : Nat) (a : List pV) (h : pH) : Prop := match px_nth px_mt id with
  | none => False
  | some (y, b, nL, rt, _, _, _) => ∀ (l : Launch) (D : va_G) (D3 : Nat → ClassId) (ad : Nat → Nat) (sz : Nat), l.stackTraces = false → px_inj ad →
    vx_Met l y (.code y b nL rt :: px_TB) (tx_rm d) (tx_Pre D D3 ad sz h a) (fun _ _ _ _ => False) (tx_X D D3 ad sz h) 1 6 (px_A ad sz)
theorem tx_con {d id : Nat} {y : MethodName} {X : pX} {b : ByteArray} {nL : Nat} {rt : Option FieldType} {s0 : Bool} {np ci : Nat} {as : List pV} {h : pH} (hid : px_nth px_mt id = some (y, b, nL, rt, s0, np, ci)) (hX : X.1 = y.cls) (hL : as.length ≤ nL) (hlong : as.all (fun v => Nat.beq (px_cat v) 1) = true)
    (hG : tx_G d (X, b, nL, rt) 0 (as.map some ++ List.replicate (nL - as.length) none) [] h) : tx_Con d id as h := by
  unfold tx_Con
  rw [hid]
  intro l D D3 ad sz hl hi
  obtain ⟨hcin, hini, hy, hpl, h20, -, -⟩ := px_mr_parts hid
  refine vx_ofW (cc := b) (maxL := nL) (ret := rt) hpl rfl ?_
  intro p e s m args below meth c s₁ B hml ht hv
  obtain ⟨rfl, hsz, hP, hK, hN, hZ, hSt⟩ := hv
  have hts := atoms_spec (ws := Jvm.Cond.code y b nL rt :: px_TB) B.pre
  have hsl := px_lgsl (ad := ad) hlong
  have hll : (lg_sl (as.map (pv ad))).length ≤ nL := by rw [hsl, List.length_map]; exact hL
  have hl9 := lv_entry (as.map (pv ad)) (n := nL) hll
  rw [lg_entry_eq]
  have hown : s.vm.findClass X.1 = some m.cls := by rw [hX]; exact findClass_of_methodNamed B.named
  subst hsz
  refine hG p l e s m _ below meth c D D3 ad s.heap [] _ ⟨B.exec, B.bytes, hml, B.returns, hown, fun w hw => hts w (List.mem_cons_of_mem _ hw), B.notSynchronized, hK, hN, hi⟩ hl ht hZ hSt hP va_S.rf ⟨hl9.1, hl9.2.1, by simp; omega, fun i v hv => ?_⟩
  rw [px_nth_eq] at hv
  rw [hsl, List.getElem?_toArray]
  by_cases hi2 : i < as.length
  · rw [List.getElem?_append_left (by simpa using hi2), List.getElem?_map] at hv
    rw [List.getElem?_append_left (by simpa using hi2), List.getElem?_map]
    cases hq : as[i]? with
    | none => rw [hq] at hv; cases hv
    | some w =>
      rw [hq] at hv
      cases hv
      rfl
  · rw [List.getElem?_append_right (by simpa using hi2)] at hv
    have := List.mem_of_getElem? hv
    rw [List.mem_replicate] at this
    cases this.2
theorem tx_person_ok {d : Nat} {x1 x2 : Int32} {h : pH} (hd : 4 ≤ d) (hq : hs_hasPerson x1 h = some (0, h) ∨ (hs_hasPerson x1 h = some (nI 1, h) ∧ ∀ k : Nat, k < 6 → ¬ x2 = nI k)) : tx_Con (d + 2) 125 [.inr (.inl 0), .inl x1, .inl x2] h :=
  tx_con (X := pX_RX10) (b := prog_1_method_7_code) (nL := 3) (rt := some .int) rfl rfl (Nat.le_of_ble_eq_true rfl) rfl (tx_person hd hq)
theorem tx_thing_ok {d : Nat} {x1 x2 : Int32} {h : pH} (hd : 4 ≤ d) (hq : hs_hasThing x1 h = some (0, h) ∨ (hs_hasThing x1 h = some (nI 1, h) ∧ ∀ k : Nat, k < 7 → ¬ x2 = nI k)) : tx_Con (d + 2) 126 [.inr (.inl 0), .inl x1, .inl x2] h :=
  tx_con (X := pX_RX10) (b := prog_1_method_8_code) (nL := 3) (rt := some .int) rfl rfl (Nat.le_of_ble_eq_true rfl) rfl (tx_thing hd hq)
theorem tx_row_ok {d : Nat} {x1 : Int32} {h : pH} (hd : 4 ≤ d) (hq : x1 < 0 ∨ ¬ x1 < h 45 1) : tx_Con (d + 2) 157 [.inr (.inl 0), .inl x1] h :=
  tx_con (X := pX_RX10) (b := prog_1_method_39_code) (nL := 2) (rt := some .int) rfl rfl (Nat.le_of_ble_eq_true rfl) rfl (tx_row hd hq)
