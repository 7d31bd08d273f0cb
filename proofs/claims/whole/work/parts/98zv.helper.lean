/-! The law's three helpers: they write what the call returned, or catch what it threw -/
def hx_r (o : Option Int32) : Int32 := match o with
  | some _ => 0
  | none => 1
def hx_out (qo : Nat) (o : Option Int32) (t : State) : Prop := ∃ (cL : ClassId) (fo : Nat → Int64), t.heap[qo]? = some (vp_cell cL (1, .inr (.inl fo))) ∧ ArrOfT t cL .long ∧ va_RA t cL .long ∧ ∀ r, o = some r → fo 0 = r.toInt64
def hx_A (ad : Nat → Nat) (qo sz : Nat) : Nat → Prop := fun q => px_A ad sz q ∨ q = qo
def hx_Pre (D : va_G) (D3 : Nat → ClassId) (ad : Nat → Nat) (qo sz : Nat) (h : pH) (av : List Value) : Array Value → State → Prop := va_Pc av (fun U => U.heap.size = sz ∧ va_P D px_cl (px_ws D3 ad h) U.heap ∧ va_K D px_cl (px_tys D3) U ∧ (∀ w ∈ px_TN, va_Nw w U) ∧ tx_Z (hx_A ad qo sz) U U.heap ∧ tx_S U ∧ hx_out qo none U)
theorem hx_out.moved {qo : Nat} {o : Option Int32} {u U : State} (h : hx_out qo o u) (hH : U.heap = u.heap) (hv : u.vm.Alike U.vm) : hx_out qo o U := by
  obtain ⟨cL, fo, h1, h2, h3, h4⟩ := h
  exact ⟨cL, fo, by rw [hH]; exact h1, arrOfT_moved hv h2, h3.moved hv, h4⟩
theorem hx_blind {D : va_G} {D3 : Nat → ClassId} {ad : Nat → Nat} {qo sz : Nat} {h : pH} {av : List Value} : FrameBlind (hx_Pre D D3 ad qo sz h av) := fun a U g mk q => by
  obtain ⟨q0, q1, qP, qK, qN, qZ, qS, qO⟩ := q
  exact ⟨q0, q1, qP, va_K.moved (u := U) (U := U.calling g mk a) (Vm.Alike.refl U.vm) qK, px_Nw_same (u := U) (U := U.calling g mk a) qN rfl, tx_Z.moved (u := U) (U := U.calling g mk a) qZ (Vm.Alike.refl U.vm), tx_S.same (u := U) (U := U.calling g mk a) qS rfl, hx_out.moved (u := U) (U := U.calling g mk a) qO rfl (Vm.Alike.refl U.vm)⟩
/-- the call in it returns o, or throws -/
def hx_Con (d id : Nat) (as : List pV) (h : pH) (o : Option Int32) (h1 : pH) : Prop := match o with
  | some r => px_Con d id as h (r, h1)
  | none => tx_Con d id as h ∧ h1 = h
def hx_Q (D : va_G) (D3 : Nat → ClassId) (ad : Nat → Nat) (qo sz : Nat) (o : Option Int32) (h1 : pH) : Array Value → State → Outcome → State → Prop := va_Qi (fun (r : Int32) (_ : Unit) => r = hx_r o) (fun _ t => px_U D D3 ad h1 t ∧ hx_out qo o t) (hx_A ad qo sz)
def hx_X : String → State → State → Prop := vx_X (fun _ : Unit => False) (fun _ _ _ => True) (fun _ => False)
theorem hx_D {D3 : Nat → ClassId} {ad : Nat → Nat} {h : pH} {qo sz : Nat} {e : va_E} (hi : px_inj ad) (hq : ∀ a, a < px_N → ad a ≠ qo) : va_D (hx_A ad qo sz) (px_ws D3 ad h ++ [(qo, e)]) := by
  refine va_D.app ⟨fun i j x y hx hy e => ?_, fun k x hx => ?_⟩ ⟨fun i j x y hx hy e => ?_, fun k x hx => ?_⟩ (fun i j x y hx hy e => ?_)
  · obtain ⟨a1, rfl⟩ := px_ws_inv hx
    obtain ⟨a2, rfl⟩ := px_ws_inv hy
    exact hi i j a1 a2 e
  · obtain ⟨a1, rfl⟩ := px_ws_inv hx
    exact Or.inl (Or.inl ⟨k, a1, rfl⟩)
  · match i, j, hx, hy with
    | 0, 0, _, _ => rfl
    | 0, j + 1, _, hy => cases hy
    | i + 1, _, hx, _ => cases hx
  · match k, hx with
    | 0, hx => cases hx; exact Or.inr rfl
    | k + 1, hx => cases hx
  · obtain ⟨a1, rfl⟩ := px_ws_inv hx
    match j, hy with
    | 0, hy => cases hy; exact hq i a1 e
    | j + 1, hy => cases hy
section HX
variable {p : Program} {l : Launch} {e0 : Env} {s : State} {m : MethodId} {args : Array Value} {below : List Frame} {meth : Method} {c : Code} {D : va_G} {D3 : Nat → ClassId} {ad : Nat → Nat} {lsA : Array Slot}
/-- the end of a helper -/
theorem hx_end {d pc qo : Nat} {cc : ByteArray} {o : Option Int32} {h1 : pH} {H : Heap} {locs : List Loc} {ls : Array Slot} {k n : Nat} {v : Int} (hx : p.tables.exec = Jvm.exec) (hb : c.code = cc) (hr : meth.sig.returnType = some .int) (hlocks : meth.locks = false) (hK : va_K D px_cl (px_tys D3) s)
    (hP : va_P D px_cl (px_ws D3 ad h1) H) (hS : va_S (hx_A ad qo s.heap.size) s.heap H locs) (hO : ∀ t : State, t.heap = H → s.vm.Alike t.vm → hx_out qo o t) (h0 : decode cc pc = .ok (.iconst v, 1)) (h1' : decode cc (pc + 1) = .ok (.ireturn, 1)) (hv : Int32.ofInt v = hx_r o) (hk : k ≤ 1) (hn : n ≤ 6) :
    W p l e0 (tx_rm d) s m args below meth c H locs k n (vx_MQ below (hx_Q D D3 ad qo s.heap.size o h1) hx_X args s 1 6 (hx_A ad qo s.heap.size)) (F0 m pc ls []) := by
  refine lv_iconst (v := hx_r o) hx hb h0 hv ?_
  refine vx_ret ?_
  refine W.widen (k := 1) (n := 6) hk hn ?_
  exact W.iret hx hb hr (fun t ht hW => ⟨⟨hx_r o, (), rfl, rfl, ⟨by rw [ht]; exact hP, va_K.moved hW.alike hK⟩, hO t ht hW.alike⟩, hS.F ht⟩) hS.2.2 h1'
theorem hx_core {d id k idx qo np ci nL : Nat} {cc : ByteArray} {y : MethodName} {bb : ByteArray} {nLc t0 t1 : Nat} {as : List pV} {h h1 : pH} {o : Option Int32} {x : ExceptionTableEntry}
    (hx : p.tables.exec = Jvm.exec) (hb : c.code = cc) (hml : c.maxLocals = nL) (hr : meth.sig.returnType = some .int) (hlocks : meth.locks = false) (hown : s.vm.findClass R_law = some m.cls) (hts : ∀ w ∈ px_TB, w.before args s = true) (hK : va_K D px_cl (px_tys D3) s) (hN : ∀ w ∈ px_TN, va_Nw w s) (hi : px_inj ad) (hq : ∀ a, a < px_N → ad a ≠ qo) (hl : l.stackTraces = false)
    (hZ : tx_Z (hx_A ad qo s.heap.size) s s.heap) (hSt : tx_S s) (hO : hx_out qo none s) (hP : va_P D px_cl (px_ws D3 ad h) s.heap) (hsz : lsA.size = nL)
    (htab : c.exceptionTable.toList = [x]) (hcov : covers x k = true) (hpc : x.handlerPc = k + 8) (hct : x.catchType = 13)
    (hid : px_nth px_mt id = some (y, bb, nLc, some .int, false, np, ci)) (hlk : Jvm.Cond.methodLink R_law idx y ∈ px_TB) (hcl : Jvm.Cond.classLink R_law 13 tx_E ∈ px_TB) (hC : hx_Con d id (.inr (.inl 0) :: as) h o h1) (hn : as.length = np) (ht : px_tag 0 = ci + 10)
    (d0 : decode cc k = .ok (.invokevirtual idx, 3)) (d3 : decode cc (k + 3) = .ok (.i2l, 1)) (d4 : decode cc (k + 4) = .ok (.lastore, 1)) (d5 : ∃ off : Int, decode cc (k + 5) = .ok (.goto off, 3) ∧ ((k + 5 : Nat) : Int) + off = (t0 : Int)) (e0' : decode cc t0 = .ok (.iconst 0, 1)) (e1' : decode cc (t0 + 1) = .ok (.ireturn, 1)) (f0 : decode cc t1 = .ok (.iconst 1, 1)) (f1 : decode cc (t1 + 1) = .ok (.ireturn, 1))
    (hA : ∀ (Q : State → Prop) (H1 : Heap) (locs1 : List Loc) (q9 kc ks : Nat), (∀ ls : Array Slot, W p l e0 (tx_rm (d + 1)) s m args below meth c H1 locs1 kc ks Q (F0 m t1 ls [])) → W p l e0 (tx_rm (d + 1)) s m args below meth c H1 locs1 kc ks Q (F0 m (k + 8) lsA [.ref q9])) :
    W p l e0 (tx_rm (d + 1)) s m args below meth c s.heap [] 0 0 (vx_MQ below (hx_Q D D3 ad qo s.heap.size o h1) hx_X args s 1 6 (hx_A ad qo s.heap.size)) (F0 m k lsA (as.reverse.map (pv ad) ++ .ref (ad 0) :: [.int 0, .ref qo])) := by
  obtain ⟨cL, fo, hO1, hO2, hO3, hO4⟩ := hO
  have hqlt : qo < s.heap.size := (Array.getElem?_eq_some_iff.mp hO1).1
  have hqA : ¬ px_A ad s.heap.size qo := fun q => by
    rcases q with ⟨a, ha, e⟩ | q
    · exact hq a ha e.symm
    · omega
  have hS0 : va_S (hx_A ad qo s.heap.size) s.heap s.heap [] := va_S.rf
  cases o with
  | some r =>
    refine lw_callV (d := d) (id := id) (own := R_law) (as := as) (a0 := 0) (r := [.int 0, .ref qo]) (q := (r, h1)) (A := hx_A ad qo s.heap.size) hx hb hml hown hts hK hN hi ⟨Nat.le_refl _, Nat.le_refl _⟩ ⟨Nat.zero_le _, Nat.zero_le _⟩ hid hlk hC hP hS0 (fun z hz => Or.inl (Or.inr hz)) (fun a ha => Or.inl (Or.inl ⟨a, ha, rfl⟩)) hsz d0 hn ht (Nat.le_of_ble_eq_true rfl) (fun H1 locs1 hP1 hk1 hz1 hS1 => ?_)
    refine lv_i2l (v := r.toInt64) hx hb d3 rfl ?_
    have hq1 : H1[qo]? = some (vp_cell cL (1, .inr (.inl fo))) := by rw [hk1 qo hqlt hqA]; exact hO1
    have hP2 : va_P D px_cl (px_ws D3 ad h1 ++ [(qo, .inl (cL, (1, .inr (.inl fo))))]) H1 := va_P.app hP1 (fun j z hz => by
      match j, hz with
      | 0, hz => cases hz; exact hq1
      | j + 1, hz => cases hz)
    have hK2 : va_K D px_cl (px_tys D3 ++ [(cL, .long)]) s := ⟨hK.1, fun j z hz => by
      match j, hz with
      | 0, hz => exact hK.2 0 z hz
      | 1, hz => exact hK.2 1 z hz
      | 2, hz => exact hK.2 2 z hz
      | 3, hz => exact hK.2 3 z hz
      | 4, hz => cases hz; exact ⟨hO2, hO3⟩
      | j + 5, hz => simp [px_tys] at hz⟩
    have hlen : (px_ws D3 ad h1).length = px_N := by
      unfold px_ws
      rw [List.length_map, List.length_range]
    refine va_last (tys := px_tys D3 ++ [(cL, .long)]) (n := 1) (f := fo) (cA := cL) (i := 0) (x := r.toInt64) hx hb hK2 hP2 (hx_D hi hq) hS1 (px_ws D3 ad h1).length 4 (by rw [List.getElem?_append_right (Nat.le_refl _), Nat.sub_self]; rfl) rfl (fun q => by
      rcases q with q | q
      · exact absurd q (by decide)
      · exact absurd q (by decide)) d4 (fun H2 locs2 hP3 hD3 hS3 => ?_)
    rw [List.set_append, if_neg (Nat.lt_irrefl _), Nat.sub_self] at hP3
    obtain ⟨off, g5, g6⟩ := d5
    refine lv_goto hx hb g5 g6 ?_
    refine hx_end (h1 := h1) (d := d + 1) hx hb hr hlocks hK (fun j z hz => hP3 j z (by rw [List.getElem?_append_left (List.getElem?_eq_some_iff.mp hz).1]; exact hz)) hS3 (fun t ht hW => ⟨cL, vp_updL fo 0 r.toInt64, ?_, arrOfT_moved hW hO2, hO3.moved hW, fun r' e => ?_⟩) e0' e1' rfl (Nat.zero_le _) (Nat.zero_le _)
    · rw [ht]
      exact hP3 (px_ws D3 ad h1).length (qo, _) (by rw [List.getElem?_append_right (Nat.le_refl _), Nat.sub_self]; rfl)
    · cases e
      simp [vp_updL]
  | none =>
    obtain ⟨hT, rfl⟩ := hC
    unfold tx_Con at hT
    rw [hid] at hT
    have hM := hT l D D3 ad s.heap.size hl hi
    obtain ⟨hc, hini, hy, hpl, h20, -, hv⟩ := px_mr_parts hid
    obtain ⟨hins, hsel, r2, hr2, hcl2⟩ := hv rfl
    have hrecv := px_recv hK hP ht hr2
    rw [hcl2] at hrecv
    have hp : PreV s s.heap y.cls (ad 0) (tx_Pre D D3 ad s.heap.size h1 (.inr (.inl 0) :: as)) (as.map (pv ad)) := ⟨tx_blind, hrecv, fun U hU hW => ⟨rfl, by rw [hU], by rw [hU]; exact hP, va_K.moved hW.alike hK, px_Nw_warm hN hW, by rw [hU]; exact (hZ.narrow (fun q hq => Or.inl hq)).moved hW.alike, hSt.warm hW⟩⟩
    have hst : (F0 m k lsA (as.reverse.map (pv ad) ++ .ref (ad 0) :: [.int 0, .ref qo])).stack = (as.map (pv ad)).reverse ++ .ref (ad 0) :: [.int 0, .ref qo] := by
      show as.reverse.map (pv ad) ++ .ref (ad 0) :: [.int 0, .ref qo] = _
      rw [List.map_reverse]
    have hroom : (tx_rm d).frames + 1 ≤ (tx_rm (d + 1)).frames ∧ 8 + (nLc + 11) + (tx_rm d).locals ≤ (tx_rm (d + 1)).locals := ⟨Nat.le_refl _, by
      show 8 + (nLc + 11) + 40 * d ≤ 40 * (d + 1)
      omega⟩
    have hrun := vx_runV (rest := [.int 0, .ref qo]) (l := l) (e := e0) (below := below) (meth := meth) (locs := []) (cells := 0) (slots := 0) ⟨hx, hb, hml, hown, hts⟩ hM ⟨callB_of np hts (px_good_ws hc) rfl rfl rfl (hts _ hini) (hts _ hlk) hy hroom, hts _ hins, hts _ hsel⟩ hp rfl (by rw [List.length_map]; exact hn) hsz hst (lv_room (Nat.le_of_ble_eq_true rfl)) d0 ⟨Nat.le_refl _, Nat.le_refl _⟩
    have hrun' : vx_Run p l e0 (tx_rm (d + 1)) s m args below meth c s.heap [] 0 0 1 6 (F0 m k lsA (as.reverse.map (pv ad) ++ .ref (ad 0) :: [.int 0, .ref qo])) [.int 0, .ref qo] (va_Qi (fun (_ : Int32) (_ : Unit) => False) (fun _ _ => True) (fun _ => False) #[]) (tx_X D D3 ad s.heap.size h1) (px_A ad s.heap.size) := fun T hT X => by
      rcases hrun T hT X with ⟨v, st₀, t, T', L, g0, X', hL, g1, g2, hF, st⟩ | g9
      · exact hF.elim
      · exact Or.inr g9
    refine vx_calli (a := #[]) hrun' hS0 (fun q _ h => h.elim) (fun q h => Or.inl h) (fun q _ h => Or.inl h) (fun E ce q9 u t H1 locs1 hte hvm hpx hB hz hk1 hS1 hce hcv hcl3 => ?_) (fun r u t H1 locs1 _ _ hpost => hpost.elim)
    obtain ⟨rfl, hU1, hU2⟩ := hB
    rw [hte] at hU1
    refine vx_catch (name := tx_E) (E := tx_E) hown [] x [] (by rw [htab]; rfl) (fun z hz => by cases hz) hcov (by rw [hct]; decide) (by rw [hct]; exact hts _ hcl) (tx_nw_use hSt.1 List.mem_cons_self) hce hcv hcl3 ?_
    rw [hpc]
    refine hA _ H1 locs1 q9 _ _ (fun ls => ?_)
    exact hx_end (h1 := h1) (d := d + 1) hx hb hr hlocks hK hU1 hS1 (fun t ht hW => ⟨cL, fo, by rw [ht, hk1 qo hqlt hqA]; exact hO1, arrOfT_moved hW hO2, hO3.moved hW, fun r e => by cases e⟩) f0 f1 rfl (Nat.le_refl _) (Nat.le_refl _)
end HX
