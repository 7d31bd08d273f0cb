/-! The law's ground: what is known at its start; a call from it -/
set_option maxRecDepth 20000 in
theorem lw_instB : (px_cl.all fun r => decide (Jvm.Cond.instantiable r.1 r.2.2 ∈ lw_tbl)) = true := by decide +kernel
theorem lw_TB {args : Array Value} {s : State} (hts : ∀ w ∈ lw_tbl, w.before args s = true) : ∀ w ∈ px_TB, w.before args s = true := fun w h => hts w (List.mem_filter.mp h).1
theorem lw_TN {args : Array Value} {s : State} (hts : ∀ w ∈ lw_tbl, w.before args s = true) : ∀ w ∈ px_TN, va_Nw w s := fun w h => by
  have h1 := hts w (List.mem_filter.mp h).1
  have h2 := px_TN_n h
  refine va_Nw.of ?_ h1
  cases w <;> first | rfl | cases h2
theorem lw_arrK {args : Array Value} {s : State} {ty : FieldType} (h : (Jvm.Cond.arrayClass ty).before args s = true) : ∃ cA : ClassId, ArrOfT s cA ty ∧ s.vm.findClass ("[" ++ ty.toString) = some cA := by
  obtain ⟨cA, kA, comp, h1, h2, h3⟩ := Cond.arrayClass_spec h
  exact ⟨cA, fun n z => ⟨fun k h => (by cases h), kA, h2, comp, h3⟩, h1⟩
theorem lw_kn {args : Array Value} {s : State} (hts : ∀ w ∈ lw_tbl, w.before args s = true) : ∃ (D : va_G) (D3 : Nat → ClassId), va_K D px_cl (px_tys D3) s := by
  have h1 : ∀ c : Nat, ∃ x : ClassId × (Nat → Nat), ∀ q, px_cl[c]? = some q → u_Kn s q.1 q.2.1 q.2.2 x.1 x.2 := by
    intro c
    cases hc : px_cl[c]? with
    | none => exact ⟨(0, fun _ => 0), fun q h => by cases h⟩
    | some q =>
      have hi := of_decide_eq_true (List.all_eq_true.mp lw_instB q (List.mem_of_getElem? hc))
      obtain ⟨cC, iS, h⟩ := u_known (C := q.1) (T := q.2.1) (N := q.2.2) (n := q.2.2) (lw_TB hts) (px_cl_in hc) (hts _ hi)
      exact ⟨(cC, iS), fun q' h' => by cases h'; exact h⟩
  obtain ⟨c0, a0, b0⟩ := lw_arrK (lw_TB hts _ qi_arr.1)
  obtain ⟨c1, a1, b1⟩ := lw_arrK (lw_TB hts _ qi_arr.2.1)
  obtain ⟨c2, a2, b2⟩ := lw_arrK (lw_TB hts _ qi_arr.2.2.1)
  obtain ⟨c3, a3, b3⟩ := lw_arrK (lw_TB hts _ qi_arr.2.2.2.1)
  refine ⟨(fun c => (Classical.choose (h1 c)).1, fun c => (Classical.choose (h1 c)).2), fun t => match t with
    | 0 => c0
    | 1 => c1
    | 2 => c2
    | _ => c3, fun c q hq => Classical.choose_spec (h1 c) q hq, fun k q hk => ?_⟩
  match k, hk with
  | 0, hk => cases hk; exact ⟨a0, b0⟩
  | 1, hk => cases hk; exact ⟨a1, b1⟩
  | 2, hk => cases hk; exact ⟨a2, b2⟩
  | 3, hk => cases hk; exact ⟨a3, b3⟩
  | k + 4, hk => simp [px_tys] at hk
section LWC
variable {p : Program} {l : Launch} {e0 : Env} {R : Room} {s : State} {m : MethodId} {args : Array Value} {below : List Frame} {meth : Method} {c : Code} {D : va_G} {D3 : Nat → ClassId} {ad : Nat → Nat} {H : Heap} {locs : List Loc} {cells slots : Nat} {lsA : Array Slot}
/-- a call of an instance method from the law -/
theorem lw_callV {d id idx : Nat} {y : MethodName} {b : ByteArray} {nLc : Nat} {rtc : Option FieldType} {np ci nL : Nat} {cc : ByteArray} {own : String} {h : pH} {q : Int32 × pH} {pc a0 : Nat} {as : List pV} {r : List Value} {Q : State → Prop} {A : Nat → Prop}
    (hx : p.tables.exec = Jvm.exec) (hb : c.code = cc) (hml : c.maxLocals = nL) (hown : s.vm.findClass own = some m.cls) (hts : ∀ w ∈ px_TB, w.before args s = true) (hK : va_K D px_cl (px_tys D3) s) (hN : ∀ w ∈ px_TN, va_Nw w s) (hi : px_inj ad)
    (hR : d + 1 ≤ R.frames ∧ 40 * (d + 1) ≤ R.locals) (hce : cells ≤ R.cells ∧ slots ≤ R.slots)
    (hid : px_nth px_mt id = some (y, b, nLc, rtc, false, np, ci)) (hl : Jvm.Cond.methodLink own idx y ∈ px_TB) (hC : px_Con d id (.inr (.inl a0) :: as) h q)
    (hP : va_P D px_cl (px_ws D3 ad h) H) (hS : va_S A s.heap H locs) (hA : ∀ z, s.heap.size ≤ z → A z) (hadA : ∀ a, a < px_N → A (ad a)) (hsz : lsA.size = nL)
    (hd : decode cc pc = .ok (.invokevirtual idx, 3)) (hn : as.length = np) (ht : px_tag a0 = ci + 10) (hlow : (r.map fun v => v.category).sum ≤ 8)
    (kk : ∀ (H1 : Heap) (locs1 : List Loc), va_P D px_cl (px_ws D3 ad q.2) H1 → (∀ z : Nat, z < H.size → ¬ px_A ad H.size z → H1[z]? = H[z]?) → H.size ≤ H1.size → va_S A s.heap H1 locs1 → W p l e0 R s m args below meth c H1 locs1 cells slots Q (F0 m (pc + 3) lsA (px_push rtc q.1 r))) : W p l e0 R s m args below meth c H locs cells slots Q (F0 m pc lsA (as.reverse.map (pv ad) ++ .ref (ad a0) :: r)) := by
  obtain ⟨hc, hini, hy, hpl, h20, -, hv⟩ := px_mr_parts hid
  obtain ⟨hins, hsel, r2, hr2, hcl⟩ := hv rfl
  unfold px_Con at hC
  rw [hid] at hC
  have hM := hC l D D3 ad H.size hi
  have hrecv := px_recv hK hP ht hr2
  rw [hcl] at hrecv
  have hp : PreV s H y.cls (ad a0) (px_Pre D D3 ad H.size h (.inr (.inl a0) :: as)) (as.map (pv ad)) := ⟨px_blind, hrecv, fun U hU hW => px_pre_at hP hK hN hU hW⟩
  have hst : (F0 m pc lsA (as.reverse.map (pv ad) ++ .ref (ad a0) :: r)).stack = (as.map (pv ad)).reverse ++ .ref (ad a0) :: r := by
    show as.reverse.map (pv ad) ++ .ref (ad a0) :: r = _
    rw [List.map_reverse]
  have hroom : (px_rm d).frames + 1 ≤ R.frames ∧ 8 + (nLc + 11) + (px_rm d).locals ≤ R.locals := ⟨hR.1, by
    show 8 + (nLc + 11) + 40 * d ≤ R.locals
    have := hR.2
    omega⟩
  have hrun : va_Run p l e0 R s m args below meth c H locs cells slots 0 0 (F0 m pc lsA (as.reverse.map (pv ad) ++ .ref (ad a0) :: r)) r (px_Q D D3 ad H.size rtc q (Value.ref (ad a0) :: as.map (pv ad)).toArray) (px_A ad H.size) :=
    va_runV ⟨hx, hb, hml, hown, hts⟩ hM ⟨callB_of np hts (px_good_ws hc) rfl rfl rfl (hts _ hini) (hts _ hl) hy hroom, hts _ hins, hts _ hsel⟩ hp rfl (by rw [List.length_map]; exact hn) hsz hst (lv_room hlow) hd hce
  have hAA : ∀ z : Nat, px_A ad H.size z → A z := fun z h => by
    rcases h with ⟨a, ha, rfl⟩ | h
    · exact hadA a ha
    · exact hA z (Nat.le_trans hS.1 h)
  cases rtc with
  | none =>
    exact va_callv (a := (Value.ref (ad a0) :: as.map (pv ad)).toArray) hrun hS (fun q _ h => hAA q h) hAA (fun u t H1 locs1 ht hvm hp hB hz hk hS1 => by
      obtain ⟨hB1, -⟩ := hB
      rw [ht, hp] at hB1
      exact kk H1 locs1 hB1 hk hz hS1)
  | some ty =>
    exact va_calli (a := (Value.ref (ad a0) :: as.map (pv ad)).toArray) hrun hS (fun q _ h => hAA q h) hAA (fun r9 u t H1 locs1 ht hvm hp hB hz hk hS1 => by
      obtain ⟨hB1, -⟩ := hB
      rw [ht, hp.2] at hB1
      rw [hp.1]
      exact kk H1 locs1 hB1 hk hz hS1)
end LWC
