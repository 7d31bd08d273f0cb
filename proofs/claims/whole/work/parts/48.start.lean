/-! The law from its entry: two constructors, one row of longs, the loop -/
theorem qi_fs {ci : Nat} {r : vw_C} (h2 : ci < 12) (hcr : px_cl[ci]? = some r) {ty0 : Nat → FieldType} (hty : ∀ k, k < r.2.2 → parseFieldDescriptor (r.2.1 k).2.2.1 = some (ty0 k)) (ad : Nat → Nat) : ∀ j, j < r.2.2 → defaultValue (ty0 j) = vp_V ((qi_new ci).2.2.map (qi_fv ad)) j := fun j hj9 => by
  have hnew : qi_new ci = (ci + 10, r.2.2, (List.range r.2.2).map fun k => if (r.2.1 k).2.2.1 = "I" ∨ (r.2.1 k).2.2.1 = "Z" then some (.inl 0) else none) := by
    unfold qi_new
    rw [hcr]
  have hdef := List.all_eq_true.mp qi_def_ok ci (List.mem_range.mpr h2)
  unfold qi_def at hdef
  rw [hcr] at hdef
  dsimp only at hdef
  have k1 := of_decide_eq_true (List.all_eq_true.mp hdef j (List.mem_range.mpr hj9))
  rw [hty j hj9] at k1
  have k2 := Option.some.inj k1
  rw [k2, hnew]
  unfold vp_V
  rw [List.getD_eq_getElem?_getD, List.getElem?_map, List.getElem?_map, List.getElem?_range hj9]
  by_cases hc : (r.2.1 j).2.2.1 = "I" ∨ (r.2.1 j).2.2.1 = "Z"
  · rw [if_pos hc]
    show Value.int 0 = qi_fv ad (if _ then _ else _)
    rw [if_pos hc]
    rfl
  · rw [if_neg hc]
    show Value.null = qi_fv ad (if _ then _ else _)
    rw [if_neg hc]
    rfl
section LWS
variable {p : Program} {l : Launch} {e0 : Env} {R : Room} {s : State} {m : MethodId} {args : Array Value} {below : List Frame} {meth : Method} {c : Code} {D : va_G} {D3 : Nat → ClassId} {ad : Nat → Nat} {H : Heap} {locs : List Loc} {cells slots : Nat} {lsA : Array Slot} {Q : State → Prop}
/-- 'new C' in the law -/
theorem lw_new {ci idx pc nL : Nat} {C : String} {T : u_T} {N : Nat} {own : String} {cc : ByteArray} {I : qI} {st : List Value} (hx : p.tables.exec = Jvm.exec) (hb : c.code = cc) (hown : s.vm.findClass own = some m.cls) (hts : ∀ w ∈ px_TB, w.before args s = true) (hK : va_K D px_cl (px_tys D3) s)
    (h12 : ci < 12) (hcr : px_cl[ci]? = some (C, T, N)) (hcl : Jvm.Cond.classLink own idx C ∈ px_TB) (hin : Jvm.Cond.instantiable C N ∈ px_TB) (hini : Jvm.Cond.initialized C ∈ px_TB) (hclo : qi_clo I.length I = true) (hnewc : (qi_new ci).2.2.all (qi_cv I.length) = true)
    (hP : va_P D px_cl (qi_ws D3 ad I) H) (hD : va_D (fun q : Nat => s.heap.size ≤ q) (qi_ws D3 ad I)) (hS : va_S (fun q : Nat => s.heap.size ≤ q) s.heap H locs) (hc1 : cells + 1 ≤ R.cells) (hs1 : slots + N ≤ R.slots) (hd : decode cc pc = .ok (.new idx, 3))
    (kk : ∀ (q : Nat) (H1 : Heap), va_P D px_cl (qi_ws D3 (qi_up ad I.length q) (I ++ [qi_new ci])) H1 → va_D (fun q : Nat => s.heap.size ≤ q) (qi_ws D3 (qi_up ad I.length q) (I ++ [qi_new ci])) → va_S (fun q : Nat => s.heap.size ≤ q) s.heap H1 locs → W p l e0 R s m args below meth c H1 locs (cells + 1) (slots + N) Q (F0 m (pc + 3) lsA (.ref q :: st))) : W p l e0 R s m args below meth c H locs cells slots Q (F0 m pc lsA st) := by
  obtain ⟨hnm, ty0, hty⟩ := px_cl_ty hcr
  refine va_new (fs := (qi_new ci).2.2.map (qi_fv ad)) hx hb hts (px_cl_in hcr) ty0 hty hown (hts _ hcl) (hts _ hin) (hts _ hini) hK hP hD hS (fun _ h => h) hcr (qi_fs h12 hcr hty ad) hc1 hs1 hd (fun q H1 hP1 hD1 hS1 => ?_)
  have hent : qi_ent D3 ad (qi_new ci) = .inr (ci, (qi_new ci).2.2.map (qi_fv ad)) := by
    unfold qi_ent
    have k3 : (qi_new ci).1 = ci + 10 := by
      unfold qi_new
      rw [hcr]
    have hb4 : Nat.blt (qi_new ci).1 4 = false := by
      cases hq : Nat.blt (qi_new ci).1 4 with
      | false => rfl
      | true =>
        have := (Nat.blt_eq).mp hq
        omega
    rw [hb4, k3]
    rfl
  have hmore := qi_more (D3 := D3) (ad := ad) (I := I) (e := qi_new ci) (q := q) hclo hnewc
  rw [hent] at hmore
  rw [← hmore] at hP1 hD1
  exact kk q H1 hP1 hD1 hS1
/-- a constructor's call in the law -/
theorem lw_ctor {d cid idx pc nL b0 : Nat} {y : MethodName} {bb : ByteArray} {nLc mc ms : Nat} {own : String} {cc : ByteArray} {I If : qI} {st : List Value} (hx : p.tables.exec = Jvm.exec) (hb : c.code = cc) (hml : c.maxLocals = nL) (hown : s.vm.findClass own = some m.cls) (hts : ∀ w ∈ px_TB, w.before args s = true) (hK : va_K D px_cl (px_tys D3) s) (hN : ∀ w ∈ px_TN, va_Nw w s)
    (hid : px_nth qi_mt cid = some (y, bb, nLc, 0, mc, ms)) (hl : Jvm.Cond.methodLink own idx y ∈ px_TB) (hC : qi_Con d qi_mt cid [.inr (.inl b0)] I If) (hR : d + 1 ≤ R.frames ∧ 40 * (d + 1) ≤ R.locals)
    (hP : va_P D px_cl (qi_ws D3 ad I) H) (hD : va_D (fun q : Nat => s.heap.size ≤ q) (qi_ws D3 ad I)) (hS : va_S (fun q : Nat => s.heap.size ≤ q) s.heap H locs) (hc1 : cells + mc ≤ R.cells ∧ slots + ms ≤ R.slots) (hsz : lsA.size = nL) (hlow : (st.map fun v => v.category).sum ≤ 8) (hd : decode cc pc = .ok (.invokespecial idx, 3))
    (kk : ∀ (ad' : Nat → Nat) (H1 : Heap) (locs1 : List Loc), (∀ k, k < I.length → ad' k = ad k) → va_P D px_cl (qi_ws D3 ad' If) H1 → va_D (fun q : Nat => s.heap.size ≤ q) (qi_ws D3 ad' If) → va_S (fun q : Nat => s.heap.size ≤ q) s.heap H1 locs1 → W p l e0 R s m args below meth c H1 locs1 (cells + mc) (slots + ms) Q (F0 m (pc + 3) lsA st)) : W p l e0 R s m args below meth c H locs cells slots Q (F0 m pc lsA (.ref (ad b0) :: st)) := by
  obtain ⟨hcode, hinst, hini, hname, hy, hpl, h20⟩ := qi_qt _ _ hid
  unfold qi_Con at hC
  rw [hid] at hC
  have hM := hC l D D3 ad H.size
  have hAA : ∀ q, va_A (qi_ws D3 ad I) H.size q → s.heap.size ≤ q := fun q hq => by
    rcases hq with ⟨k, e9, hk⟩ | hq
    · exact hD.2 k (q, e9) hk
    · exact Nat.le_trans hS.1 hq
  have hroom : (qi_rm d mc ms).frames + 1 ≤ R.frames ∧ 8 + (nLc + 11) + (qi_rm d mc ms).locals ≤ R.locals := ⟨hR.1, by
    show 8 + (nLc + 11) + 40 * d ≤ R.locals
    have := hR.2
    dsimp only at h20
    omega⟩
  have hp9 : PreS s H (va_Pc ([Sum.inr (Sum.inl b0)].map (pv ad)) (fun U => U.heap.size = H.size ∧ va_P D px_cl (qi_ws D3 ad I) U.heap ∧ va_K D px_cl (px_tys D3) U ∧ (∀ w ∈ px_TN, va_Nw w U) ∧ va_D (fun _ => True) (qi_ws D3 ad I))) [.ref (ad b0)] := ⟨qi_blind, fun U hU hW => ⟨rfl, by rw [hU], by rw [hU]; exact hP, va_K.moved hW.alike hK, px_Nw_warm hN hW, hD.weaken (fun _ _ _ _ => trivial)⟩⟩
  have hrun : va_Run p l e0 R s m args below meth c H locs cells slots mc ms (F0 m pc lsA (.ref (ad b0) :: st)) st (qi_Q D D3 ad I.length (va_A (qi_ws D3 ad I) H.size) If #[.ref (ad b0)]) (va_A (qi_ws D3 ad I) H.size) :=
    va_runI (As := []) ⟨hx, hb, hml, hown, hts⟩ hM ⟨callB_of 0 hts (px_good_ws hcode) rfl rfl rfl (hts _ hini) (hts _ hl) hy hroom, hname, hts _ hinst⟩ hp9 rfl rfl hsz rfl (lv_room hlow) hd hc1
  refine va_callv (a := #[.ref (ad b0)]) hrun hS (fun q _ h => hAA q h) hAA (fun ad' t H1 locs1 ht hvm hp1 hB hz hk hS1 => ?_)
  obtain ⟨hB1, -, hB3⟩ := hB
  rw [ht] at hB1
  exact kk ad' H1 locs1 hp1 hB1 (hB3.weaken (fun _ q _ h => hAA q.1 h)) hS1
end LWS
