/-! Making the cells: a closed machine for constructors -/
abbrev qE : Type := Nat × Nat × List (Option pV)
abbrev qI : Type := List qE
abbrev qX : Type := String × List (Nat × Nat × Nat × Nat) × List (Nat × Nat × Nat × Nat × Nat) × List (Nat × Nat) × List (Nat × Nat × Nat)
abbrev qC : Type := Nat → List pV → qI → Option qI
def qi_fv (ad : Nat → Nat) : Option pV → Value
  | none => .null
  | some v => pv ad v
def qi_ent (D3 : Nat → ClassId) (ad : Nat → Nat) (e : qE) : va_E := match Nat.blt e.1 4 with
  | true => .inl (D3 e.1, (e.2.1, .inl fun _ => 0))
  | false => .inr (e.1 - 10, e.2.2.map (qi_fv ad))
def qi_go (D3 : Nat → ClassId) (ad : Nat → Nat) : Nat → qI → va_W
  | _, [] => []
  | i, e :: l => (ad i, qi_ent D3 ad e) :: qi_go D3 ad (i + 1) l
def qi_ws (D3 : Nat → ClassId) (ad : Nat → Nat) (I : qI) : va_W := qi_go D3 ad 0 I
def qi_cv (n : Nat) (v : Option pV) : Bool := match v with
  | some (.inr (.inl r)) => Nat.blt r n
  | _ => true
def qi_clo (n : Nat) (I : qI) : Bool := I.all fun e => e.2.2.all (qi_cv n)
theorem qi_go_at {D3 : Nat → ClassId} {ad : Nat → Nat} (I : qI) (i k : Nat) : (qi_go D3 ad i I)[k]? = (I[k]?).map fun e => (ad (i + k), qi_ent D3 ad e) := by
  induction I generalizing i k with
  | nil => simp [qi_go]
  | cons e l ih =>
    cases k with
    | zero => simp [qi_go]
    | succ k =>
      simp only [qi_go, List.getElem?_cons_succ]
      rw [ih, show i + 1 + k = i + (k + 1) by omega]
theorem qi_go_snoc {D3 : Nat → ClassId} {ad : Nat → Nat} (I : qI) (e : qE) (i : Nat) : qi_go D3 ad i (I ++ [e]) = qi_go D3 ad i I ++ [(ad (i + I.length), qi_ent D3 ad e)] := by
  induction I generalizing i with
  | nil => simp [qi_go]
  | cons a l ih =>
    simp only [List.cons_append, qi_go, List.length_cons]
    rw [ih, show i + 1 + l.length = i + (l.length + 1) by omega]
theorem qi_go_set {D3 : Nat → ClassId} {ad : Nat → Nat} (I : qI) (e : qE) (i k : Nat) : (qi_go D3 ad i I).set k (ad (i + k), qi_ent D3 ad e) = qi_go D3 ad i (I.set k e) := by
  induction I generalizing i k with
  | nil => simp [qi_go]
  | cons a l ih =>
    cases k with
    | zero => simp [qi_go]
    | succ k =>
      simp only [qi_go, List.set_cons_succ]
      rw [show i + (k + 1) = i + 1 + k by omega, ih]
theorem qi_fv_eq {ad ad' : Nat → Nat} {n : Nat} (h : ∀ k, k < n → ad' k = ad k) {v : Option pV} (hv : qi_cv n v = true) : qi_fv ad' v = qi_fv ad v := by
  match v, hv with
  | none, _ => rfl
  | some (.inl x), _ => rfl
  | some (.inr (.inr x)), _ => rfl
  | some (.inr (.inl r)), hv =>
    have hr : r < n := by simpa [qi_cv, Nat.blt_eq] using hv
    show Value.ref (ad' r) = .ref (ad r)
    rw [h r hr]
theorem qi_ent_eq {D3 : Nat → ClassId} {ad ad' : Nat → Nat} {n : Nat} (h : ∀ k, k < n → ad' k = ad k) {e : qE} (he : e.2.2.all (qi_cv n) = true) : qi_ent D3 ad' e = qi_ent D3 ad e := by
  unfold qi_ent
  split
  · rfl
  · have : e.2.2.map (qi_fv ad') = e.2.2.map (qi_fv ad) := List.map_congr_left fun v hv => qi_fv_eq h (List.all_eq_true.mp he v hv)
    rw [this]
theorem qi_go_eq {D3 : Nat → ClassId} {ad ad' : Nat → Nat} {n : Nat} (h : ∀ k, k < n → ad' k = ad k) {I : qI} {i : Nat} (hi : i + I.length ≤ n) (hc : qi_clo n I = true) : qi_go D3 ad' i I = qi_go D3 ad i I := by
  induction I generalizing i with
  | nil => rfl
  | cons e l ih =>
    unfold qi_clo at hc
    rw [List.all_cons, Bool.and_eq_true] at hc
    rw [List.length_cons] at hi
    simp only [qi_go]
    rw [h i (by omega), qi_ent_eq h hc.1, ih (by omega) hc.2]
def qi_up (ad : Nat → Nat) (n q : Nat) : Nat → Nat := fun k => if k = n then q else ad k
theorem qi_up_lt {ad : Nat → Nat} {n q k : Nat} (h : k < n) : qi_up ad n q k = ad k := if_neg (by omega)
theorem qi_up_self {ad : Nat → Nat} {n q : Nat} : qi_up ad n q n = q := if_pos rfl
/-- a cell more -/
theorem qi_more {D3 : Nat → ClassId} {ad : Nat → Nat} {I : qI} {e : qE} {q : Nat} (hc : qi_clo I.length I = true) (he : e.2.2.all (qi_cv I.length) = true) : qi_ws D3 (qi_up ad I.length q) (I ++ [e]) = qi_ws D3 ad I ++ [(q, qi_ent D3 ad e)] := by
  unfold qi_ws
  rw [qi_go_snoc, qi_go_eq (n := I.length) (fun k hk => qi_up_lt hk) (by omega) hc, qi_ent_eq (n := I.length) (fun k hk => qi_up_lt hk) he]
  rw [Nat.zero_add, qi_up_self]
def qi_if {α : Type} (b : Bool) (x : Option α) : Option α := match b with
  | true => x
  | false => none
theorem qi_if_some {α : Type} {b : Bool} {x : Option α} {q : α} (h : qi_if b x = some q) : b = true ∧ x = some q := by
  cases b with
  | true => exact ⟨rfl, h⟩
  | false => cases h
/-- what a new object of a class holds -/
def qi_new (ci : Nat) : qE := match px_cl[ci]? with
  | none => (9, 0, [])
  | some r => (ci + 10, r.2.2, (List.range r.2.2).map fun k => if (r.2.1 k).2.2.1 = "I" ∨ (r.2.1 k).2.2.1 = "Z" then some (.inl 0) else none)
def qi_def (ci : Nat) : Bool := match px_cl[ci]? with
  | none => true
  | some r => (List.range r.2.2).all fun k => decide ((parseFieldDescriptor (r.2.1 k).2.2.1).map defaultValue = some (if (r.2.1 k).2.2.1 = "I" ∨ (r.2.1 k).2.2.1 = "Z" then .int 0 else .null))
theorem qi_def_ok : (List.range 12).all qi_def = true := by decide +kernel
def qi_at (I : qI) (a : Nat) : qE := match px_nth I a with
  | some e => e
  | none => (9, 0, [])
/-- a constructor: name, bytes, locals, arguments beside this, cells and places that it makes at most -/
abbrev qM : Type := MethodName × ByteArray × Nat × Nat × Nat × Nat
def qi_find3 (l : List (Nat × Nat × Nat)) (j : Nat) : Option (Nat × Nat) := px_find l j
def qi_step (X : qX) (qt : List qM) (C : qC) (mc ms : Nat) (i : Instr) (n pc : Nat) (ls : pL) (st : List pV) (I : qI) (cs sl : Nat) (k : Nat → pL → List pV → qI → Nat → Nat → Option qI) : Option qI :=
  match i with
  | .iconst v => qi_if (Nat.beq n 1) (k (pc + 1) ls (.inl (Int32.ofInt v) :: st) I cs sl)
  | .bipush v => qi_if (Nat.beq n 2 && (decide (-128 ≤ v) && decide (v ≤ 127))) (k (pc + 2) ls (.inl (Int32.ofInt v) :: st) I cs sl)
  | .sipush v => qi_if (Nat.beq n 3 && (decide (-32768 ≤ v) && decide (v ≤ 32767))) (k (pc + 3) ls (.inl (Int32.ofInt v) :: st) I cs sl)
  | .aload_n j => qi_if (Nat.beq n 1) (match px_nth ls j with
    | some (some (.inr (.inl a))) => k (pc + 1) ls (.inr (.inl a) :: st) I cs sl
    | _ => none)
  | .dup => qi_if (Nat.beq n 1) (match st with
    | .inr (.inl a) :: r => k (pc + 1) ls (.inr (.inl a) :: .inr (.inl a) :: r) I cs sl
    | _ => none)
  | .newarray t => match (match t with
      | .int => some 0
      | .byte => some 1
      | .char => some 2
      | .boolean => some 3
      | _ => none : Option Nat), st with
    | some tg, .inl x :: r => qi_if (Nat.beq n 2 && (decide (0 ≤ x) && (Nat.ble (x.toNatClampNeg * 8) 536870912 && (Nat.ble (cs + 1) mc && (Nat.ble (sl + x.toNatClampNeg) ms && (qi_clo I.length I && (ls.all (qi_cv I.length) && r.all (fun v => qi_cv I.length (some v))))))))) (k (pc + 2) ls (.inr (.inl I.length) :: r) (I ++ [(tg, x.toNatClampNeg, [])]) (cs + 1) (sl + x.toNatClampNeg))
    | _, _ => none
  | .new j => match px_find X.2.2.1 j with
    | some q => qi_if (Nat.beq n 3 && (Nat.blt q.1 12 && (Nat.ble (cs + 1) mc && (Nat.ble (sl + (qi_new q.1).2.1) ms && (qi_clo I.length I && (ls.all (qi_cv I.length) && (st.all (fun v => qi_cv I.length (some v)) && (qi_new q.1).2.2.all (qi_cv I.length)))))))) (k (pc + 3) ls (.inr (.inl I.length) :: st) (I ++ [qi_new q.1]) (cs + 1) (sl + (qi_new q.1).2.1))
    | none => none
  | .getfield j => qi_if (Nat.beq n 3) (match st with
    | .inr (.inl a) :: r => match px_find X.2.1 j with
      | some q => match px_nth (qi_at I a).2.2 q.2.1 with
        | some (some v) => qi_if (Nat.beq (qi_at I a).1 (q.1 + 10)) (k (pc + 3) ls (v :: r) I cs sl)
        | _ => none
      | none => none
    | _ => none)
  | .putfield j => qi_if (Nat.beq n 3) (match st with
    | v :: .inr (.inl a) :: r => match px_find X.2.1 j with
      | some q => qi_if (Nat.beq (qi_at I a).1 (q.1 + 10) && Nat.blt q.2.1 (qi_at I a).2.2.length) (match px_cl[q.1]? with
        | some cr => qi_if (match v with
          | .inl x => decide ((cr.2.1 q.2.1).2.2.1 = "I") || (decide ((cr.2.1 q.2.1).2.2.1 = "Z") && decide (x = 0))
          | .inr (.inl _) => match parseFieldDescriptor (cr.2.1 q.2.1).2.2.1 with
            | some (.array _) => true
            | some (.object _) => true
            | _ => false
          | _ => false) (qi_if (!(cr.2.1 q.2.1).2.2.2 || (decide (cr.1 = X.1) && px_at q.2.2 (.fieldLink X.1 j cr.1 (cr.2.1 q.2.1).2.1 (cr.2.1 q.2.1).2.2.1))) (k (pc + 3) ls r (I.set a ((qi_at I a).1, (qi_at I a).2.1, (qi_at I a).2.2.set q.2.1 (some v))) cs sl))
        | none => none)
      | none => none
    | _ => none)
  | .invokespecial j => qi_if (Nat.beq n 3) (match px_find X.2.2.2.1 j with
    | some _ => match st with
      | .inr (.inl _) :: r => qi_if (px_low r) (k (pc + 3) ls r I cs sl)
      | _ => none
    | none => match px_find X.2.2.2.2 j with
      | none => none
      | some q => match px_nth qt q.1 with
        | none => none
        | some (_, _, _, np, mc', ms') => match px_popn np st with
          | some (as, .inr (.inl b) :: r) => qi_if (px_low r && (Nat.ble (cs + mc') mc && (Nat.ble (sl + ms') ms && (ls.all (qi_cv I.length) && r.all (fun v => qi_cv I.length (some v)))))) (match C q.1 (.inr (.inl b) :: as) I with
            | none => none
            | some I1 => qi_if (Nat.ble I.length I1.length) (k (pc + 3) ls r I1 (cs + mc') (sl + ms')))
          | _ => none)
  | .return_ => qi_if (Nat.beq n 1) (match st with
    | [] => qi_if (Nat.ble cs mc && Nat.ble sl ms) (some I)
    | _ => none)
  | _ => none
def qi_run (X : qX) (qt : List qM) (C : qC) (mc ms : Nat) (code : pCode) : Nat → Nat → pL → List pV → qI → Nat → Nat → Option qI
  | 0, _, _, _, _, _, _ => none
  | f + 1, pc, ls, st, I, cs, sl => match px_find code pc with
    | none => none
    | some q => qi_step X qt C mc ms q.1 q.2 pc ls st I cs sl (qi_run X qt C mc ms code f)
