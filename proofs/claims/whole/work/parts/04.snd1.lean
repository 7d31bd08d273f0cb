/-! What the pure machine does the machine does: the facts, the worlds, the judgement -/
def px_isN : Jvm.Cond → Bool
  | .fieldLinkNest .. => true
  | .methodLinkNest .. => true
  | _ => false
def px_TB : List Jvm.Cond := lw_tbl.filter goodWord
def px_TN : List Jvm.Cond := lw_tbl.filter px_isN
theorem px_TB_of {w : Jvm.Cond} (h : w ∈ lw_tbl) (g : goodWord w = true) : w ∈ px_TB := List.mem_filter.mpr ⟨h, g⟩
theorem px_TN_of {w : Jvm.Cond} (h : w ∈ lw_tbl) (g : px_isN w = true) : w ∈ px_TN := List.mem_filter.mpr ⟨h, g⟩
theorem px_good {ws : List Jvm.Cond} (h : ∀ w ∈ ws, w ∈ px_TB) : GoodIn px_TB ws := fun w hw => ⟨h w hw, good_of_word (List.mem_filter.mp (h w hw)).2⟩
def px_at (i : Nat) (w : Jvm.Cond) : Bool := decide (lw_tbl[i]? = some w)
theorem px_at_mem {i : Nat} {w : Jvm.Cond} (h : px_at i w = true) : w ∈ lw_tbl := List.mem_of_getElem? (i := i) (of_decide_eq_true h)
def px_fB (own : String) (q : Nat × Nat × Nat × Nat) : Bool := match px_cl[q.2.1]? with
  | none => false
  | some r => Nat.blt q.2.2.1 r.2.2 && (decide ((r.2.1 q.2.2.1).1 = r.1) && (px_at q.2.2.2 (.fieldLink own q.1 r.1 (r.2.1 q.2.2.1).2.1 (r.2.1 q.2.2.1).2.2.1) || px_at q.2.2.2 (.fieldLinkNest own q.1 r.1 (r.2.1 q.2.2.1).2.1 (r.2.1 q.2.2.1).2.2.1 "WordsUnsaid")))
def px_iname (k : Nat) : MethodName := match k with
  | 1000 => Lib.Math.max.name
  | 1001 => Lib.Math.min.name
  | 1002 => Lib.Math.abs.name
  | 1003 => Lib.MathLoose.max_long.x
  | _ => Lib.MathLoose.min_long.x
def px_mB (own : String) (q : Nat × Nat × Nat) : Bool := match Nat.ble 1000 q.2.1 with
  | true => px_at q.2.2 (.methodLink own q.1 (px_iname q.2.1))
  | false => match px_nth px_mt q.2.1 with
    | none => false
    | some r => px_at q.2.2 (.methodLink own q.1 r.1) || px_at q.2.2 (.methodLinkNest own q.1 r.1 "WordsUnsaid")
def px_ctxB (X : pX) : Bool := X.2.1.all (px_fB X.1) && (X.2.2.1.all (px_mB X.1) && (X.2.2.2.1.all (fun q => px_at q.2.2 (.constant X.1 q.1 q.2.1)) && X.2.2.2.2.all (fun q => px_at q.2.2 (.constantLong X.1 q.1 q.2.1))))
theorem px_find_mem {α : Type} {l : List (Nat × α)} {i : Nat} {x : α} (h : px_find l i = some x) : (i, x) ∈ l := by
  induction l with
  | nil => cases h
  | cons q l ih =>
    unfold px_find at h
    split at h
    · rename_i hq
      cases h
      have := Nat.eq_of_beq_eq_true hq
      subst this
      exact List.mem_cons_self
    · exact List.mem_cons_of_mem _ (ih h)
theorem px_nth_eq {α : Type} (l : List α) (i : Nat) : px_nth l i = l[i]? := by
  induction l generalizing i with
  | nil => simp [px_nth]
  | cons a l ih =>
    cases i with
    | zero => simp [px_nth]
    | succ i => simp [px_nth, ih]
def px_descB (a : Nat) (r : vw_C) (k : Nat) : Bool := match px_rf a k with
  | none => decide ((r.2.1 k).2.2.1 = "I") && !(r.2.1 k).2.2.2
  | some t => match Nat.beq t 1001 with
    | true => decide ((r.2.1 k).2.2.1 = "Z") && !(r.2.1 k).2.2.2
    | false => match Nat.beq t 1000 with
      | true => decide ((r.2.1 k).2.2.1 = "[B") && !(r.2.1 k).2.2.2
      | false => Nat.blt t px_N
def px_layB (a : Nat) : Bool := match Nat.blt (px_tag a) 4 with
  | true => true
  | false => Nat.ble 10 (px_tag a) && (match px_cl[px_tag a - 10]? with
    | none => false
    | some r => Nat.beq r.2.2 (px_len a) && (List.range r.2.2).all (px_descB a r))
set_option maxRecDepth 20000 in
theorem px_layB_ok : (List.range px_N).all px_layB = true := by decide +kernel
theorem px_lay_of {a : Nat} (h : a < px_N) : px_layB a = true := List.all_eq_true.mp px_layB_ok a (List.mem_range.mpr h)
theorem px_lay_len : px_lay.length = px_N := by decide +kernel
theorem px_row_out {a : Nat} (h : px_N ≤ a) : px_tag a = 9 := by
  unfold px_tag px_row
  rw [px_nth_eq, List.getElem?_eq_none (by rw [px_lay_len]; exact h)]
theorem px_in_N {a : Nat} (h : px_tag a ≠ 9) : a < px_N := Nat.lt_of_not_le fun q => h (px_row_out q)
/-! the worlds -/
def pv (ad : Nat → Nat) : pV → Value
  | .inl x => .int x
  | .inr (.inl a) => .ref (ad a)
  | .inr (.inr x) => .long x
def px_fv (ad : Nat → Nat) (h : pH) (a k : Nat) : Value := match px_rf a k with
  | none => .int (h a k)
  | some t => match Nat.beq t 1001 with
    | true => .int (h a k)
    | false => match Nat.beq t 1000 with
      | true => if h a k < 0 then .null else .ref (ad (h a k).toNatClampNeg)
      | false => .ref (ad t)
def px_ent (D3 : Nat → ClassId) (ad : Nat → Nat) (h : pH) (a : Nat) : va_E := match Nat.blt (px_tag a) 4 with
  | true => .inl (D3 (px_tag a), (px_len a, .inl (h a)))
  | false => .inr (px_tag a - 10, (List.range (px_len a)).map (px_fv ad h a))
def px_ws (D3 : Nat → ClassId) (ad : Nat → Nat) (h : pH) : va_W := (List.range px_N).map fun a => (ad a, px_ent D3 ad h a)
def px_tys (D3 : Nat → ClassId) : List (ClassId × FieldType) := [(D3 0, .int), (D3 1, .byte), (D3 2, .char), (D3 3, .boolean)]
def px_inj (ad : Nat → Nat) : Prop := ∀ i j, i < px_N → j < px_N → ad i = ad j → i = j
def px_A (ad : Nat → Nat) (sz : Nat) : Nat → Prop := fun q => (∃ a, a < px_N ∧ q = ad a) ∨ sz ≤ q
theorem px_ws_at {D3 : Nat → ClassId} {ad : Nat → Nat} {h : pH} {a : Nat} (ha : a < px_N) : (px_ws D3 ad h)[a]? = some (ad a, px_ent D3 ad h a) := by
  unfold px_ws
  rw [List.getElem?_map, List.getElem?_range ha]
  rfl
theorem px_ws_inv {D3 : Nat → ClassId} {ad : Nat → Nat} {h : pH} {a : Nat} {q : Nat × va_E} (e : (px_ws D3 ad h)[a]? = some q) : a < px_N ∧ q = (ad a, px_ent D3 ad h a) := by
  have ha : a < px_N := by
    have := (List.getElem?_eq_some_iff.mp e).1
    simpa [px_ws] using this
  rw [px_ws_at ha] at e
  exact ⟨ha, (Option.some.inj e).symm⟩
theorem px_DD {D3 : Nat → ClassId} {ad : Nat → Nat} {h : pH} {sz : Nat} (hi : px_inj ad) : va_D (px_A ad sz) (px_ws D3 ad h) := by
  refine ⟨fun i j p q h1 h2 e => ?_, fun k q h1 => ?_⟩
  · obtain ⟨a1, rfl⟩ := px_ws_inv h1
    obtain ⟨a2, rfl⟩ := px_ws_inv h2
    exact hi i j a1 a2 e
  · obtain ⟨a1, rfl⟩ := px_ws_inv h1
    exact Or.inl ⟨k, a1, rfl⟩
theorem px_ws_set {D3 : Nat → ClassId} {ad : Nat → Nat} {h h' : pH} {a : Nat} (ha : a < px_N) (ho : ∀ b, b ≠ a → h' b = h b) : (px_ws D3 ad h).set a (ad a, px_ent D3 ad h' a) = px_ws D3 ad h' := by
  apply List.ext_getElem?
  intro i
  by_cases hi : i = a
  · subst hi
    rw [List.getElem?_set_self (by simpa [px_ws] using ha), px_ws_at ha]
  · rw [List.getElem?_set_ne (Ne.symm hi)]
    by_cases hN : i < px_N
    · rw [px_ws_at hN, px_ws_at hN]
      have e1 : ∀ k, px_fv ad h' i k = px_fv ad h i k := fun k => by unfold px_fv; rw [ho i hi]
      have e2 : px_fv ad h' i = px_fv ad h i := funext e1
      unfold px_ent
      rw [e2, ho i hi]
    · rw [List.getElem?_eq_none (by simpa [px_ws] using hN), List.getElem?_eq_none (by simpa [px_ws] using hN)]
theorem px_w_ne {h : pH} {a k b : Nat} {v : Int32} (hb : b ≠ a) : px_w h a k v b = h b := by
  funext j
  simp [px_w, hb]
theorem px_w_self {h : pH} {a k : Nat} {v : Int32} : px_w h a k v a = upd (h a) k v := by
  funext j
  simp [px_w, upd]
theorem px_ent_arr {D3 : Nat → ClassId} {ad : Nat → Nat} {h : pH} {a : Nat} (ht : px_tag a < 4) : px_ent D3 ad h a = .inl (D3 (px_tag a), (px_len a, .inl (h a))) := by
  have hb : Nat.blt (px_tag a) 4 = true := by simpa [Nat.blt_eq] using ht
  unfold px_ent
  rw [hb]
theorem px_ent_obj {D3 : Nat → ClassId} {ad : Nat → Nat} {h : pH} {a : Nat} (ht : ¬ px_tag a < 4) : px_ent D3 ad h a = .inr (px_tag a - 10, (List.range (px_len a)).map (px_fv ad h a)) := by
  have hb : Nat.blt (px_tag a) 4 = false := by
    cases hq : Nat.blt (px_tag a) 4 with
    | false => rfl
    | true => exact absurd (by simpa [Nat.blt_eq] using hq) ht
  unfold px_ent
  rw [hb]
/-- a field is written -/
theorem px_fset {ad : Nat → Nat} {h : pH} {a k : Nat} {v : Int32} {u : Value} (hu : px_fv ad (px_w h a k v) a k = u) : ((List.range (px_len a)).map (px_fv ad h a)).set k u = (List.range (px_len a)).map (px_fv ad (px_w h a k v) a) := by
  apply List.ext_getElem?
  intro i
  by_cases hi : i = k
  · subst hi
    by_cases hl : i < px_len a
    · rw [List.getElem?_set_self (by simpa using hl), List.getElem?_map, List.getElem?_range hl, ← hu]
      rfl
    · rw [List.getElem?_eq_none (by simpa using hl), List.getElem?_eq_none (by simpa using hl)]
  · rw [List.getElem?_set_ne (Ne.symm hi), List.getElem?_map, List.getElem?_map]
    have e1 : px_fv ad (px_w h a k v) a i = px_fv ad h a i := by
      unfold px_fv
      have : px_w h a k v a i = h a i := by simp [px_w, hi]
      rw [this]
    cases hr : (List.range (px_len a))[i]? with
    | none => rfl
    | some j =>
      have hj : j = i := by
        have := List.getElem?_eq_some_iff.mp hr
        obtain ⟨h1, h2⟩ := this
        simpa using h2.symm
      subst hj
      simp [e1]
/-! the judgement -/
abbrev pM : Type := pX × ByteArray × Nat × Option FieldType
def px_rm (d : Nat) : Room := { frames := d, cells := 0, slots := 0, locals := 40 * d }
def px_has (ad : Nat → Nat) (lsA : Array Slot) (nL : Nat) (ls : pL) : Prop := lsA.size = nL ∧ lv_wf lsA ∧ ls.length = nL ∧ ∀ (i : Nat) (v : pV), px_nth ls i = some (some v) → lsA[i]? = some (.val (pv ad v))
def px_U (D : va_G) (D3 : Nat → ClassId) (ad : Nat → Nat) (u : pH) (t : State) : Prop := va_P D px_cl (px_ws D3 ad u) t.heap ∧ va_K D px_cl (px_tys D3) t
def px_Q (D : va_G) (D3 : Nat → ClassId) (ad : Nat → Nat) (sz : Nat) (rt : Option FieldType) (q : Int32 × pH) : Array Value → State → Outcome → State → Prop := match rt with
  | none => va_Qv (fun u : pH => u = q.2) (px_U D D3 ad) (px_A ad sz)
  | some _ => va_Qi (fun (r : Int32) (u : pH) => r = q.1 ∧ u = q.2) (px_U D D3 ad) (px_A ad sz)
def px_Fix (M : pM) (p : Program) (s : State) (m : MethodId) (args : Array Value) (meth : Method) (c : Code) (D : va_G) (D3 : Nat → ClassId) (ad : Nat → Nat) : Prop :=
  p.tables.exec = Jvm.exec ∧ c.code = M.2.1 ∧ c.maxLocals = M.2.2.1 ∧ meth.sig.returnType = M.2.2.2 ∧ s.vm.findClass M.1.1 = some m.cls ∧ (∀ w ∈ px_TB, w.before args s = true) ∧ meth.locks = false ∧ va_K D px_cl (px_tys D3) s ∧ (∀ w ∈ px_TN, va_Nw w s) ∧ px_inj ad
def px_G (d : Nat) (M : pM) (pc : Nat) (ls : pL) (st : List pV) (h : pH) (q : Int32 × pH) : Prop :=
  ∀ (p : Program) (l : Launch) (e : Env) (s : State) (m : MethodId) (args : Array Value) (below : List Frame) (meth : Method) (c : Code) (D : va_G) (D3 : Nat → ClassId) (ad : Nat → Nat) (H : Heap) (locs : List Loc) (lsA : Array Slot),
    px_Fix M p s m args meth c D D3 ad → va_P D px_cl (px_ws D3 ad h) H → va_S (px_A ad s.heap.size) s.heap H locs → px_has ad lsA M.2.2.1 ls →
    W p l e (px_rm d) s m args below meth c H locs 0 0 (MQ below (px_Q D D3 ad s.heap.size M.2.2.2 q) args s 0 0 (px_A ad s.heap.size)) (F0 m pc lsA (st.map (pv ad)))
/-- a method's contract at arguments a and contents h: it answers q.1 and leaves q.2 -/
def px_Con (d : Nat) (id : Nat) (a : List pV) (h : pH) (q : Int32 × pH) : Prop := match px_nth px_mt id with
  | none => False
  | some (y, b, nL, rt, _, _, _) => ∀ (l : Launch) (D : va_G) (D3 : Nat → ClassId) (ad : Nat → Nat) (sz : Nat), px_inj ad →
    Met l y (.code y b nL rt :: px_TB) (px_rm d) (va_Pc (a.map (pv ad)) (fun U => U.heap.size = sz ∧ va_P D px_cl (px_ws D3 ad h) U.heap ∧ va_K D px_cl (px_tys D3) U ∧ ∀ w ∈ px_TN, va_Nw w U)) (px_Q D D3 ad sz rt q) 0 0 (px_A ad sz)
def px_Or (d : Nat) (C : pC) : Prop := ∀ (id : Nat) (a : List pV) (h : pH) (q : Int32 × pH), C id a h = some q → px_Con d id a h q
/-! small rows -/
theorem px_if_some {b : Bool} {x : pR} {q : Int32 × pH} (h : px_if b x = some q) : b = true ∧ x = some q := by
  cases b with
  | true => exact ⟨rfl, h⟩
  | false => cases h
theorem px_bind_some {x : pR} {f : Int32 → pH → pR} {q : Int32 × pH} (h : px_bind x f = some q) : ∃ r h1, x = some (r, h1) ∧ f r h1 = some q := by
  cases x with
  | none => cases h
  | some y => exact ⟨y.1, y.2, rfl, h⟩
theorem px_i1_some {st : List pV} {f : Int32 → List pV → pR} {q : Int32 × pH} (h : px_i1 st f = some q) : ∃ x r, st = .inl x :: r ∧ f x r = some q := by
  unfold px_i1 at h
  split at h
  · exact ⟨_, _, rfl, h⟩
  · cases h
theorem px_i2_some {st : List pV} {f : Int32 → Int32 → List pV → pR} {q : Int32 × pH} (h : px_i2 st f = some q) : ∃ x y r, st = .inl y :: .inl x :: r ∧ f x y r = some q := by
  unfold px_i2 at h
  split at h
  · exact ⟨_, _, _, rfl, h⟩
  · cases h
theorem px_l2_some {st : List pV} {f : Int64 → Int64 → List pV → pR} {q : Int32 × pH} (h : px_l2 st f = some q) : ∃ x y r, st = .inr (.inr y) :: .inr (.inr x) :: r ∧ f x y r = some q := by
  unfold px_l2 at h
  split at h
  · exact ⟨_, _, _, rfl, h⟩
  · cases h
theorem px_ld_some {ls : pL} {i : Nat} {f : pV → pR} {q : Int32 × pH} (h : px_ld ls i f = some q) : ∃ v, px_nth ls i = some (some v) ∧ f v = some q := by
  unfold px_ld at h
  split at h
  · rename_i v hv
    exact ⟨v, hv, h⟩
  · cases h
theorem px_isI_some {v : pV} {x : pR} {q : Int32 × pH} (h : px_isI v x = some q) : ∃ y, v = .inl y ∧ x = some q := by
  unfold px_isI at h
  split at h
  · exact ⟨_, rfl, h⟩
  · cases h
theorem px_isA_some {v : pV} {x : pR} {q : Int32 × pH} (h : px_isA v x = some q) : ∃ y, v = .inr (.inl y) ∧ x = some q := by
  unfold px_isA at h
  split at h
  · exact ⟨_, rfl, h⟩
  · cases h
theorem px_isL_some {v : pV} {x : pR} {q : Int32 × pH} (h : px_isL v x = some q) : ∃ y, v = .inr (.inr y) ∧ x = some q := by
  unfold px_isL at h
  split at h
  · exact ⟨_, rfl, h⟩
  · cases h
theorem px_tg_some {pc : Nat} {off : Int} {f : Nat → pR} {q : Int32 × pH} (h : px_tg pc off f = some q) : ∃ t : Nat, (pc : Int) + off = (t : Int) ∧ f t = some q := by
  unfold px_tg at h
  split at h
  · rename_i t ht
    exact ⟨t, ht, h⟩
  · cases h
theorem px_upd_len (ls : pL) (i : Nat) (v : Option pV) : (px_upd ls i v).length = ls.length := by
  induction ls generalizing i with
  | nil => rfl
  | cons a l ih =>
    cases i with
    | zero => rfl
    | succ i => simp [px_upd, ih]
theorem px_upd_self {ls : pL} {i : Nat} {v : Option pV} (h : i < ls.length) : px_nth (px_upd ls i v) i = some v := by
  induction ls generalizing i with
  | nil => simp at h
  | cons a l ih =>
    cases i with
    | zero => rfl
    | succ i => exact ih (by simpa using h)
theorem px_upd_ne {ls : pL} {i j : Nat} {v : Option pV} (h : j ≠ i) : px_nth (px_upd ls i v) j = px_nth ls j := by
  induction ls generalizing i j with
  | nil => rfl
  | cons a l ih =>
    cases i with
    | zero =>
      cases j with
      | zero => exact absurd rfl h
      | succ j => rfl
    | succ i =>
      cases j with
      | zero => rfl
      | succ j => exact ih (by omega)
theorem px_cs_lt {ls : pL} {i : Nat} (h : px_cs ls i = true) : i < ls.length := by
  unfold px_cs at h
  rw [Bool.and_eq_true] at h
  simpa [Nat.blt_eq] using h.1
theorem px_cs_long {ls : pL} {i j : Nat} {x : Int64} (h : px_cs ls i = true) (hj : j + 1 = i) : px_nth ls j ≠ some (some (.inr (.inr x))) := by
  subst hj
  unfold px_cs at h
  rw [Bool.and_eq_true] at h
  intro e
  have h2 := h.2
  simp only [e] at h2
  cases h2
def px_ents (ad : Nat → Nat) (ls : pL) : List (Nat × Value) := (List.range ls.length).filterMap fun i => match px_nth ls i with
  | some (some v) => some (i, pv ad v)
  | _ => none
theorem px_ents_mem {ad : Nat → Nat} {ls : pL} {q : Nat × Value} : q ∈ px_ents ad ls ↔ ∃ v, px_nth ls q.1 = some (some v) ∧ q.2 = pv ad v := by
  unfold px_ents
  rw [List.mem_filterMap]
  constructor
  · rintro ⟨i, hi, h⟩
    split at h
    · rename_i v hv
      cases h
      exact ⟨v, hv, rfl⟩
    · cases h
  · rintro ⟨v, hv, hq⟩
    refine ⟨q.1, ?_, ?_⟩
    · rw [List.mem_range]
      rw [px_nth_eq] at hv
      exact (List.getElem?_eq_some_iff.mp hv).1
    · rw [hv]
      show some (q.1, pv ad v) = some q
      rw [← hq]
theorem px_has_lv {ad : Nat → Nat} {lsA : Array Slot} {nL : Nat} {ls : pL} (h : px_has ad lsA nL ls) : lv_has lsA nL (px_ents ad ls) := by
  refine ⟨h.1, h.2.1, fun q hq => ?_⟩
  obtain ⟨v, h1, h2⟩ := px_ents_mem.mp hq
  rw [h2]
  exact h.2.2.2 _ _ h1
theorem px_has_st1 {ad : Nat → Nat} {lsA ls' : Array Slot} {nL : Nat} {ls : pL} {i : Nat} {v : pV} (h : px_has ad lsA nL ls) (hc : px_cs ls i = true)
    (h' : lv_has ls' nL ((i, pv ad v) :: (px_ents ad ls).filter (fun q => !(q.1 == i) && !(q.1 + 1 == i && q.2.category == 2)))) : px_has ad ls' nL (px_upd ls i (some v)) := by
  refine ⟨h'.1, h'.2.1, by rw [px_upd_len]; exact h.2.2.1, fun j w hj => ?_⟩
  by_cases hji : j = i
  · subst hji
    rw [px_upd_self (px_cs_lt hc)] at hj
    cases hj
    exact h'.2.2 (j, pv ad v) List.mem_cons_self
  · rw [px_upd_ne hji] at hj
    refine h'.2.2 (j, pv ad w) (List.mem_cons_of_mem _ (List.mem_filter.mpr ⟨px_ents_mem.mpr ⟨w, hj, rfl⟩, ?_⟩))
    have h1 : (j == i) = false := by simpa using hji
    by_cases hj1 : j + 1 = i
    · have hcat : ((pv ad w).category == 2) = false := by
        match w, hj with
        | .inl x, _ => rfl
        | .inr (.inl x), _ => rfl
        | .inr (.inr x), hj => exact absurd hj (px_cs_long hc hj1)
      simp [h1, hcat]
    · have h2 : (j + 1 == i) = false := by simpa using hj1
      simp [h1, h2]
theorem px_has_st2 {ad : Nat → Nat} {lsA ls' : Array Slot} {nL : Nat} {ls : pL} {i : Nat} {v : pV} (h : px_has ad lsA nL ls) (hc : px_cs ls i = true)
    (h' : lv_has ls' nL ((i, pv ad v) :: (px_ents ad ls).filter (fun q => !(q.1 == i) && (!(q.1 == i + 1) && !(q.1 + 1 == i && q.2.category == 2))))) : px_has ad ls' nL (px_upd (px_upd ls (i + 1) none) i (some v)) := by
  refine ⟨h'.1, h'.2.1, by rw [px_upd_len, px_upd_len]; exact h.2.2.1, fun j w hj => ?_⟩
  by_cases hji : j = i
  · subst hji
    rw [px_upd_self (by rw [px_upd_len]; exact px_cs_lt hc)] at hj
    cases hj
    exact h'.2.2 (j, pv ad v) List.mem_cons_self
  · rw [px_upd_ne hji] at hj
    by_cases hj2 : j = i + 1
    · subst hj2
      by_cases hl : i + 1 < ls.length
      · rw [px_upd_self hl] at hj
        cases hj
      · rw [px_nth_eq, List.getElem?_eq_none (by rw [px_upd_len]; omega)] at hj
        cases hj
    · rw [px_upd_ne hj2] at hj
      refine h'.2.2 (j, pv ad w) (List.mem_cons_of_mem _ (List.mem_filter.mpr ⟨px_ents_mem.mpr ⟨w, hj, rfl⟩, ?_⟩))
      have h1 : (j == i) = false := by simpa using hji
      have h3 : (j == i + 1) = false := by simpa using hj2
      by_cases hj1 : j + 1 = i
      · have hcat : ((pv ad w).category == 2) = false := by
          match w, hj with
          | .inl x, _ => rfl
          | .inr (.inl x), _ => rfl
          | .inr (.inr x), hj => exact absurd hj (px_cs_long hc hj1)
        simp [h1, h3, hcat]
      · have h2 : (j + 1 == i) = false := by simpa using hj1
        simp [h1, h2, h3]
/-- fewer known locals -/
def px_le (ls0 ls : pL) : Prop := ls0.length = ls.length ∧ ∀ (i : Nat) (v : pV), px_nth ls0 i = some (some v) → px_nth ls i = some (some v)
theorem px_G_le {d : Nat} {M : pM} {pc : Nat} {ls0 ls : pL} {st : List pV} {h : pH} {q : Int32 × pH} (hl : px_le ls0 ls) (k : px_G d M pc ls0 st h q) : px_G d M pc ls st h q :=
  fun p l e s m args below meth c D D3 ad H locs lsA hF hP hS hh => k p l e s m args below meth c D D3 ad H locs lsA hF hP hS ⟨hh.1, hh.2.1, hl.1.trans hh.2.2.1, fun i v hi => hh.2.2.2 i v (hl.2 i v hi)⟩
