/-! Calls; a block; a method's contract out of its blocks -/
theorem px_TN_n {w : Jvm.Cond} (h : w ∈ px_TN) : px_isN w = true := (List.mem_filter.mp h).2
theorem px_Nw_warm {s U : State} (hN : ∀ w ∈ px_TN, va_Nw w s) (hW : s.WarmedH U.vm) : ∀ w ∈ px_TN, va_Nw w U := by
  intro w hw
  have h1 := px_TN_n hw
  have h2 := hN w hw
  cases w <;> first | exact va_Nw.warmF hW h2 | exact va_Nw.warmM hW h2 | cases h1
theorem px_Nw_same {u U : State} (hN : ∀ w ∈ px_TN, va_Nw w u) (h : u.vm = U.vm) : ∀ w ∈ px_TN, va_Nw w U := by
  intro w hw
  have h1 := px_TN_n hw
  have h2 := hN w hw
  refine va_Nw.same ?_ h h2
  cases w <;> first | rfl | cases h1
def px_push (rt : Option FieldType) (x : Int32) (r : List Value) : List Value := match rt with
  | none => r
  | some _ => .int x :: r
/-- a method's start -/
def px_Pre (D : va_G) (D3 : Nat → ClassId) (ad : Nat → Nat) (sz : Nat) (h : pH) (a : List pV) : Array Value → State → Prop := va_Pc (a.map (pv ad)) (fun U => U.heap.size = sz ∧ va_P D px_cl (px_ws D3 ad h) U.heap ∧ va_K D px_cl (px_tys D3) U ∧ ∀ w ∈ px_TN, va_Nw w U)
theorem px_blind {D : va_G} {D3 : Nat → ClassId} {ad : Nat → Nat} {sz : Nat} {h : pH} {a : List pV} : FrameBlind (px_Pre D D3 ad sz h a) := fun a U g mk q => by
  obtain ⟨q0, q1, qP, qK, qN⟩ := q
  exact ⟨q0, q1, qP, va_K.moved (u := U) (U := U.calling g mk a) (Vm.Alike.refl U.vm) qK, px_Nw_same (u := U) (U := U.calling g mk a) qN rfl⟩
theorem px_pre_at {D : va_G} {D3 : Nat → ClassId} {ad : Nat → Nat} {h : pH} {a : List pV} {s U : State} {H : Heap} (hP : va_P D px_cl (px_ws D3 ad h) H) (hK : va_K D px_cl (px_tys D3) s) (hN : ∀ w ∈ px_TN, va_Nw w s) (hU : U.heap = H) (hW : s.WarmedH U.vm) : px_Pre D D3 ad H.size h a (a.map (pv ad)).toArray U :=
  ⟨rfl, by rw [hU], by rw [hU]; exact hP, va_K.moved hW.alike hK, px_Nw_warm hN hW⟩
section PXC
variable {d : Nat} {M : pM} {p : Program} {l : Launch} {e0 : Env} {s : State} {m : MethodId} {args : Array Value} {below : List Frame} {meth : Method} {c : Code} {D : va_G} {D3 : Nat → ClassId} {ad : Nat → Nat} {H : Heap} {locs : List Loc} {lsA : Array Slot}
/-- behind a call -/
theorem px_ret {rtc : Option FieldType} {Q : State → Prop} {q : Int32 × pH} {pc : Nat} {st0 rest : List Value} {aa : Array Value} (hK : va_K D px_cl (px_tys D3) s) (hS : va_S (px_A ad s.heap.size) s.heap H locs)
    (hr : va_Run p l e0 (px_rm (d + 1)) s m args below meth c H locs 0 0 0 0 (F0 m pc lsA st0) rest (px_Q D D3 ad H.size rtc q aa) (px_A ad H.size))
    (kk : ∀ (H1 : Heap) (locs1 : List Loc), va_P D px_cl (px_ws D3 ad q.2) H1 → va_S (px_A ad s.heap.size) s.heap H1 locs1 → W p l e0 (px_rm (d + 1)) s m args below meth c H1 locs1 0 0 Q (F0 m (pc + 3) lsA (px_push rtc q.1 rest))) : W p l e0 (px_rm (d + 1)) s m args below meth c H locs 0 0 Q (F0 m pc lsA st0) := by
  have hA : ∀ q : Nat, px_A ad H.size q → px_A ad s.heap.size q := fun q h => h.imp id (fun h => Nat.le_trans hS.1 h)
  cases rtc with
  | none =>
    exact va_callv (a := aa) hr hS (fun q _ h => hA q h) hA (fun u t H1 locs1 ht hvm hp hB hz hk hS1 => by
      obtain ⟨hB1, -⟩ := hB
      rw [ht, hp] at hB1
      exact kk H1 locs1 hB1 hS1)
  | some ty =>
    exact va_calli (a := aa) hr hS (fun q _ h => hA q h) hA (fun r u t H1 locs1 ht hvm hp hB hz hk hS1 => by
      obtain ⟨hB1, -⟩ := hB
      rw [ht, hp.2] at hB1
      rw [hp.1]
      exact kk H1 locs1 hB1 hS1)
theorem px_room {nL : Nat} (h : nL ≤ 20) : (px_rm d).frames + 1 ≤ (px_rm (d + 1)).frames ∧ 8 + (nL + 11) + (px_rm d).locals ≤ (px_rm (d + 1)).locals := by
  constructor
  · exact Nat.le_refl _
  · show 8 + (nL + 11) + 40 * d ≤ 40 * (d + 1)
    omega
theorem px_mr_parts {y : MethodName} {b : ByteArray} {nLc : Nat} {rtc : Option FieldType} {s0 : Bool} {np ci : Nat} {id : Nat} (h : px_nth px_mt id = some (y, b, nLc, rtc, s0, np, ci)) :
    Jvm.Cond.code y b nLc rtc ∈ px_TB ∧ Jvm.Cond.initialized y.cls ∈ px_TB ∧ (y.cls ≠ "java/lang/invoke/MethodHandle" ∧ y.cls ≠ "java/lang/invoke/VarHandle" ∧ (parseMethodDescriptor y.desc).map (fun d => d.parameters.length) = some np) ∧ plainName y.cls = true ∧ nLc ≤ 20 ∧ (s0 = true → Jvm.Cond.static y ∈ px_TB) ∧ (s0 = false → Jvm.Cond.instanceMethod y ∈ px_TB ∧ Jvm.Cond.selects y.cls y y ∈ px_TB ∧ ∃ r, px_cl[ci]? = some r ∧ r.1 = y.cls) := by
  obtain ⟨z, hz⟩ := px_mt_at h
  have hc := px_code_in h
  unfold px_mrB at hz
  simp only [Bool.and_eq_true] at hz
  obtain ⟨h1, h2, h3, h4, h5⟩ := hz
  refine ⟨hc, px_TB_of (px_at_mem h1) rfl, of_decide_eq_true h2, h3, Nat.le_of_ble_eq_true h4, fun hs => ?_, fun hs => ?_⟩
  · subst hs
    exact px_TB_of (px_at_mem h5) rfl
  · subst hs
    simp only [Bool.and_eq_true] at h5
    refine ⟨px_TB_of (px_at_mem h5.1) rfl, px_TB_of (px_at_mem h5.2.1) rfl, ?_⟩
    have h6 := h5.2.2
    split at h6
    · rename_i r hr
      exact ⟨r, hr, of_decide_eq_true h6⟩
    · cases h6
theorem px_good_ws {y : MethodName} {b : ByteArray} {nLc : Nat} {rtc : Option FieldType} (hc : Jvm.Cond.code y b nLc rtc ∈ px_TB) : GoodIn px_TB (Jvm.Cond.code y b nLc rtc :: px_TB) := px_good fun w hw => by
  rcases List.mem_cons.mp hw with rfl | hw
  · exact hc
  · exact hw
theorem px_recv {h : pH} {a ci : Nat} {r : vw_C} (hK : va_K D px_cl (px_tys D3) s) (hP : va_P D px_cl (px_ws D3 ad h) H) (ht : px_tag a = ci + 10) (hr : px_cl[ci]? = some r) : ∃ cell : Cell, H[ad a]? = some cell ∧ cell.vm.isStatics = false ∧ s.vm.findClass r.1 = some cell.cls :=
  va_recv hK hP hr (px_ws_obj (px_in_N (by omega)) ht)
theorem px_invV {id idx : Nat} {y : MethodName} {b : ByteArray} {nLc : Nat} {rtc : Option FieldType} {np ci : Nat} {h : pH} {q : Int32 × pH} {pc a0 : Nat} {as r : List pV} {Q : State → Prop}
    (hid : px_nth px_mt id = some (y, b, nLc, rtc, false, np, ci)) (hl : Jvm.Cond.methodLink M.1.1 idx y ∈ px_TB ∨ Jvm.Cond.methodLinkNest M.1.1 idx y "WordsUnsaid" ∈ px_TN) (hC : px_Con d id (.inr (.inl a0) :: as) h q)
    (hF : px_Fix M p s m args meth c D D3 ad) (hP : va_P D px_cl (px_ws D3 ad h) H) (hS : va_S (px_A ad s.heap.size) s.heap H locs) (hsz : lsA.size = M.2.2.1)
    (hd : decode M.2.1 pc = .ok (.invokevirtual idx, 3)) (hn : as.length = np) (ht : px_tag a0 = ci + 10) (hlow : px_low r = true)
    (kk : ∀ (H1 : Heap) (locs1 : List Loc), va_P D px_cl (px_ws D3 ad q.2) H1 → va_S (px_A ad s.heap.size) s.heap H1 locs1 → W p l e0 (px_rm (d + 1)) s m args below meth c H1 locs1 0 0 Q (F0 m (pc + 3) lsA (px_push rtc q.1 (r.map (pv ad))))) : W p l e0 (px_rm (d + 1)) s m args below meth c H locs 0 0 Q (F0 m pc lsA ((as.reverse ++ .inr (.inl a0) :: r).map (pv ad))) := by
  obtain ⟨hx, hb, hml, hr, hown, hts, hlocks, hK, hN, hi⟩ := hF
  obtain ⟨hc, hini, hy, hpl, h20, -, hv⟩ := px_mr_parts hid
  obtain ⟨hins, hsel, r2, hr2, hcl⟩ := hv rfl
  unfold px_Con at hC
  rw [hid] at hC
  have hM := hC l D D3 ad H.size hi
  have hrecv := px_recv hK hP ht hr2
  rw [hcl] at hrecv
  have hp : PreV s H y.cls (ad a0) (px_Pre D D3 ad H.size h (.inr (.inl a0) :: as)) (as.map (pv ad)) := ⟨px_blind, hrecv, fun U hU hW => px_pre_at hP hK hN hU hW⟩
  have hst : (F0 m pc lsA ((as.reverse ++ .inr (.inl a0) :: r).map (pv ad))).stack = (as.map (pv ad)).reverse ++ .ref (ad a0) :: r.map (pv ad) := by
    show (as.reverse ++ .inr (.inl a0) :: r).map (pv ad) = _
    rw [List.map_append, List.map_reverse]
    rfl
  refine px_ret (d := d) hK hS (aa := (Value.ref (ad a0) :: as.map (pv ad)).toArray) ?_ kk
  rcases hl with hl | hl
  · exact va_runV ⟨hx, hb, hml, hown, hts⟩ hM ⟨callB_of np hts (px_good_ws hc) rfl rfl rfl (hts _ hini) (hts _ hl) hy (px_room h20), hts _ hins, hts _ hsel⟩ hp rfl (by rw [List.length_map]; exact hn) hsz hst (lv_room (px_low_some hlow)) hd ⟨Nat.le_refl _, Nat.le_refl _⟩
  · exact va_runVN ⟨hx, hb, hml, hown, hts⟩ hM ⟨va_cnB np hts (px_good_ws hc) rfl rfl rfl (hN _ hl) (hts _ hini) hy (px_room h20), hts _ hins, hts _ hsel⟩ hp rfl (by rw [List.length_map]; exact hn) hsz hst (lv_room (px_low_some hlow)) hd ⟨Nat.le_refl _, Nat.le_refl _⟩
theorem px_invS {id idx : Nat} {y : MethodName} {b : ByteArray} {nLc : Nat} {rtc : Option FieldType} {np ci : Nat} {h : pH} {q : Int32 × pH} {pc : Nat} {as r : List pV} {Q : State → Prop}
    (hid : px_nth px_mt id = some (y, b, nLc, rtc, true, np, ci)) (hl : Jvm.Cond.methodLink M.1.1 idx y ∈ px_TB ∨ Jvm.Cond.methodLinkNest M.1.1 idx y "WordsUnsaid" ∈ px_TN) (hC : px_Con d id as h q)
    (hF : px_Fix M p s m args meth c D D3 ad) (hP : va_P D px_cl (px_ws D3 ad h) H) (hS : va_S (px_A ad s.heap.size) s.heap H locs) (hsz : lsA.size = M.2.2.1)
    (hd : decode M.2.1 pc = .ok (.invokestatic idx, 3)) (hn : as.length = np) (hlow : px_low r = true)
    (kk : ∀ (H1 : Heap) (locs1 : List Loc), va_P D px_cl (px_ws D3 ad q.2) H1 → va_S (px_A ad s.heap.size) s.heap H1 locs1 → W p l e0 (px_rm (d + 1)) s m args below meth c H1 locs1 0 0 Q (F0 m (pc + 3) lsA (px_push rtc q.1 (r.map (pv ad))))) : W p l e0 (px_rm (d + 1)) s m args below meth c H locs 0 0 Q (F0 m pc lsA ((as.reverse ++ r).map (pv ad))) := by
  obtain ⟨hx, hb, hml, hr, hown, hts, hlocks, hK, hN, hi⟩ := hF
  obtain ⟨hc, hini, hy, hpl, h20, hs, -⟩ := px_mr_parts hid
  unfold px_Con at hC
  rw [hid] at hC
  have hM := hC l D D3 ad H.size hi
  have hp : PreS s H (px_Pre D D3 ad H.size h as) (as.map (pv ad)) := ⟨px_blind, fun U hU hW => px_pre_at hP hK hN hU hW⟩
  have hst : (F0 m pc lsA ((as.reverse ++ r).map (pv ad))).stack = (as.map (pv ad)).reverse ++ r.map (pv ad) := by
    show (as.reverse ++ r).map (pv ad) = _
    rw [List.map_append, List.map_reverse]
  refine px_ret (d := d) hK hS (aa := (as.map (pv ad)).toArray) ?_ kk
  rcases hl with hl | hl
  · exact va_runS ⟨hx, hb, hml, hown, hts⟩ hM ⟨callB_of np hts (px_good_ws hc) rfl rfl rfl (hts _ hini) (hts _ hl) hy (px_room h20), hts _ (hs rfl)⟩ hp rfl (by rw [List.length_map]; exact hn) hsz hst (lv_room (px_low_some hlow)) hd ⟨Nat.le_refl _, Nat.le_refl _⟩
  · exact va_runSN ⟨hx, hb, hml, hown, hts⟩ hM ⟨va_cnB np hts (px_good_ws hc) rfl rfl rfl (hN _ hl) (hts _ hini) hy (px_room h20), hts _ (hs rfl), trivial⟩ hp rfl (by rw [List.length_map]; exact hn) hsz hst (lv_room (px_low_some hlow)) hd ⟨Nat.le_refl _, Nat.le_refl _⟩
end PXC
