/-! The constructors' machine is the JVM's -/
def qi_rm (d mc ms : Nat) : Room := { frames := d, cells := mc, slots := ms, locals := 40 * d }
def qi_Q (D : va_G) (D3 : Nat → ClassId) (ad0 : Nat → Nat) (n0 : Nat) (A : Nat → Prop) (If : qI) : Array Value → State → Outcome → State → Prop :=
  va_Qv (fun ad' : Nat → Nat => ∀ k, k < n0 → ad' k = ad0 k) (fun ad' t => va_P D px_cl (qi_ws D3 ad' If) t.heap ∧ va_K D px_cl (px_tys D3) t ∧ va_D A (qi_ws D3 ad' If)) A
def qi_Fix (own : String) (b : ByteArray) (nL : Nat) (p : Program) (s : State) (m : MethodId) (args : Array Value) (meth : Method) (c : Code) (D : va_G) (D3 : Nat → ClassId) (A : Nat → Prop) : Prop :=
  p.tables.exec = Jvm.exec ∧ c.code = b ∧ c.maxLocals = nL ∧ meth.sig.returnType = none ∧ s.vm.findClass own = some m.cls ∧ (∀ w ∈ px_TB, w.before args s = true) ∧ meth.locks = false ∧ va_K D px_cl (px_tys D3) s ∧ (∀ w ∈ px_TN, va_Nw w s) ∧ meth.name = "<init>" ∧ ∀ q, s.heap.size ≤ q → A q
def qi_G (d : Nat) (own : String) (b : ByteArray) (nL mc ms : Nat) (pc : Nat) (ls : pL) (st : List pV) (I : qI) (cs sl : Nat) (If : qI) : Prop :=
  ∀ (p : Program) (l : Launch) (e : Env) (s : State) (m : MethodId) (args : Array Value) (below : List Frame) (meth : Method) (c : Code) (D : va_G) (D3 : Nat → ClassId) (ad : Nat → Nat) (A : Nat → Prop) (H : Heap) (locs : List Loc) (lsA : Array Slot) (ad0 : Nat → Nat) (n0 : Nat),
    qi_Fix own b nL p s m args meth c D D3 A → n0 ≤ I.length → (∀ k, k < n0 → ad k = ad0 k) → va_P D px_cl (qi_ws D3 ad I) H → va_D A (qi_ws D3 ad I) → va_S A s.heap H locs → px_has ad lsA nL ls →
    W p l e (qi_rm d mc ms) s m args below meth c H locs cs sl (MQ below (qi_Q D D3 ad0 n0 A If) args s mc ms A) (F0 m pc lsA (st.map (pv ad)))
theorem qi_pv_eq {ad ad' : Nat → Nat} {n : Nat} (h : ∀ k, k < n → ad' k = ad k) {v : pV} (hv : qi_cv n (some v) = true) : pv ad' v = pv ad v := qi_fv_eq h (v := some v) hv
theorem qi_st_eq {ad ad' : Nat → Nat} {n : Nat} (h : ∀ k, k < n → ad' k = ad k) {st : List pV} (hv : st.all (fun v => qi_cv n (some v)) = true) : st.map (pv ad') = st.map (pv ad) := List.map_congr_left fun v hm => qi_pv_eq h (List.all_eq_true.mp hv v hm)
theorem qi_has_eq {ad ad' : Nat → Nat} {n nL : Nat} {lsA : Array Slot} {ls : pL} (h : ∀ k, k < n → ad' k = ad k) (hv : ls.all (qi_cv n) = true) (hh : px_has ad lsA nL ls) : px_has ad' lsA nL ls :=
  ⟨hh.1, hh.2.1, hh.2.2.1, fun i v hi => by
    rw [qi_pv_eq h (List.all_eq_true.mp hv _ (by rw [px_nth_eq] at hi; exact List.mem_of_getElem? hi))]
    exact hh.2.2.2 i v hi⟩
theorem qi_ws_at {D3 : Nat → ClassId} {ad : Nat → Nat} {I : qI} {a : Nat} {e : qE} (h : px_nth I a = some e) : (qi_ws D3 ad I)[a]? = some (ad a, qi_ent D3 ad e) := by
  unfold qi_ws
  rw [qi_go_at, ← px_nth_eq, h, Nat.zero_add]
  rfl
theorem qi_obj {D3 : Nat → ClassId} {ad : Nat → Nat} {I : qI} {a ci : Nat} (h : Nat.beq (qi_at I a).1 (ci + 10) = true) (h9 : ci ≠ 999999999) : (qi_ws D3 ad I)[a]? = some (ad a, .inr (ci, (qi_at I a).2.2.map (qi_fv ad))) := by
  have h1 := Nat.eq_of_beq_eq_true h
  cases hn : px_nth I a with
  | none =>
    have : qi_at I a = (9, 0, []) := by unfold qi_at; rw [hn]
    rw [this] at h1
    omega
  | some e =>
    have he : qi_at I a = e := by unfold qi_at; rw [hn]
    rw [he] at h1 ⊢
    rw [qi_ws_at hn]
    have hb : Nat.blt e.1 4 = false := by
      cases hq : Nat.blt e.1 4 with
      | false => rfl
      | true =>
        have := (Nat.blt_eq).mp hq
        omega
    unfold qi_ent
    rw [hb, h1]
    rfl
def qi_cB (qt : List qM) (q : Nat × Nat × Nat) (own : String) : Bool := match px_nth qt q.2.1 with
  | none => false
  | some r => px_at q.2.2 (.methodLink own q.1 r.1) || px_at q.2.2 (.methodLinkNest own q.1 r.1 "WordsUnsaid")
def qi_ctxB (qt : List qM) (X : qX) : Bool := X.2.1.all (px_fB X.1) && (X.2.2.1.all (fun q => match px_cl[q.2.1]? with
  | none => false
  | some r => px_at q.2.2.1 (.classLink X.1 q.1 r.1) && (px_at q.2.2.2.1 (.instantiable r.1 r.2.2) && px_at q.2.2.2.2 (.initialized r.1))) && (X.2.2.2.1.all (fun q => px_at q.2 (.methodLink X.1 q.1 objectInit)) && X.2.2.2.2.all (fun q => qi_cB qt q X.1)))
def qi_mtB (q : qM × Nat × Nat × Nat) : Bool := px_at q.2.2.1 (.instanceMethod q.1.1) && (px_at q.2.2.2 (.initialized q.1.1.cls) && (decide (q.1.1.name = "<init>") && (decide (q.1.1.cls ≠ "java/lang/invoke/MethodHandle" ∧ q.1.1.cls ≠ "java/lang/invoke/VarHandle" ∧ (parseMethodDescriptor q.1.1.desc).map (fun d => d.parameters.length) = some q.1.2.2.2.1) && (plainName q.1.1.cls && Nat.ble q.1.2.2.1 20))))
set_option maxRecDepth 20000 in
theorem qi_arrB : (decide (Jvm.Cond.arrayClass .int ∈ lw_tbl) && (decide (Jvm.Cond.arrayClass .byte ∈ lw_tbl) && (decide (Jvm.Cond.arrayClass .char ∈ lw_tbl) && (decide (Jvm.Cond.arrayClass .boolean ∈ lw_tbl) && (decide (Jvm.Cond.instanceMethod objectInit ∈ lw_tbl)))))) = true := by decide +kernel
theorem qi_arr : Jvm.Cond.arrayClass .int ∈ px_TB ∧ Jvm.Cond.arrayClass .byte ∈ px_TB ∧ Jvm.Cond.arrayClass .char ∈ px_TB ∧ Jvm.Cond.arrayClass .boolean ∈ px_TB ∧ Jvm.Cond.instanceMethod objectInit ∈ px_TB := by
  have h := qi_arrB
  simp only [Bool.and_eq_true, decide_eq_true_eq] at h
  exact ⟨px_TB_of h.1 rfl, px_TB_of h.2.1 rfl, px_TB_of h.2.2.1 rfl, px_TB_of h.2.2.2.1 rfl, px_TB_of h.2.2.2.2 rfl⟩
