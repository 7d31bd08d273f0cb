/-! Layer B: the rule: codes, the machine of small steps -/
/-- a code: (false, number) or (true, sign) -/
abbrev uC : Type := Bool × Nat
def uI (c : uC) : Int32 := if c.1 = true then -(nI c.2) else nI c.2
def u_let (c : Nat) : Bool := [105, 110, 111, 112, 116, 119, 121].contains c
def u_bond (c : Nat) : Nat := if c = 42 then 3 else if c = 43 then 2 else if c = 45 then 2 else if c = 47 then 3 else if c = 60 then 1 else if c = 61 then 1 else if c = 62 then 1 else if c = 256 then 4 else 0
def u_J (c : Nat) (a b : Int32) : Int32 := if c = 42 then a * b else if c = 43 then a + b else if c = 45 then a - b else if c = 60 then (if a < b then nI 1 else 0) else if c = 61 then (if a = b then nI 1 else 0) else if c = 62 then (if b < a then nI 1 else 0) else if b = 0 then 0 else a / b
def u_st (e : Nat → Int32) (c : uC) (s : List Int32) : Option (List Int32) := if c.1 = false then some (nI c.2 :: s) else if u_let c.2 = true then some (e c.2 :: s) else if c.2 = 256 then (match s with
  | [] => none
  | a :: s => some (-a :: s)) else (match s with
  | [] => none
  | [_] => none
  | b :: a :: s => some (u_J c.2 a b :: s))
def u_ev (e : Nat → Int32) : List uC → List Int32 → Option (List Int32)
  | [], s => some s
  | c :: l, s => match u_st e c s with
    | none => none
    | some s => u_ev e l s
theorem u_ev_app (e : Nat → Int32) : ∀ (l l2 : List uC) (s : List Int32), u_ev e (l ++ l2) s = match u_ev e l s with
    | none => none
    | some s => u_ev e l2 s := by
  intro l
  induction l with
  | nil => intro l2 s; rfl
  | cons c l ih =>
    intro l2 s
    show (match u_st e c s with | none => none | some s => u_ev e (l ++ l2) s) = match (match u_st e c s with | none => none | some s => u_ev e l s) with
      | none => none
      | some s => u_ev e l2 s
    cases u_st e c s with
    | none => rfl
    | some s => exact ih l2 s
/-- the codes are worth so much -/
def u_val (l : List uC) (v : (Nat → Int32) → Int32) : Prop := ∀ e s, u_ev e l s = some (v e :: s)
theorem u_val_neg {l : List uC} {v : (Nat → Int32) → Int32} (h : u_val l v) : u_val (l ++ [(true, 256)]) (fun e => -(v e)) := fun e s => by
  rw [u_ev_app, h e s]
  rfl
theorem u_val_op {l l2 : List uC} {v w : (Nat → Int32) → Int32} {c : Nat} (h : u_val l v) (h2 : u_val l2 w) (h3 : u_let c = false) (h4 : c ≠ 256) : u_val (l ++ l2 ++ [(true, c)]) (fun e => u_J c (v e) (w e)) := fun e s => by
  rw [u_ev_app, u_ev_app, h e s]
  dsimp only
  rw [h2 e (v e :: s)]
  show (match u_st e (true, c) (w e :: v e :: s) with | none => none | some s => u_ev e [] s) = _
  unfold u_st
  rw [if_neg (by simp), if_neg (by rw [h3]; simp), if_neg h4]
  rfl
theorem u_val_num (n : Nat) : u_val [(false, n)] (fun _ => nI n) := fun e s => rfl
theorem u_val_let {c : Nat} (h : u_let c = true) : u_val [(true, c)] (fun e => e c) := fun e s => by
  show (match u_st e (true, c) s with | none => none | some s => u_ev e [] s) = _
  unfold u_st
  rw [if_neg (by simp), if_pos h]
  rfl
/-- a good code -/
def u_ok (c : uC) : Prop := (c.1 = false ∧ c.2 ≤ 999) ∨ (c.1 = true ∧ (u_let c.2 = true ∨ 1 ≤ u_bond c.2))
/-- what waits is written: those that bind as b or faster -/
def u_W (b : Nat) : List uC → List Nat → List uC × List Nat
  | out, [] => (out, [])
  | out, s :: st => if s = 40 ∨ u_bond s < b then (out, s :: st) else u_W b (out ++ [(true, s)]) st
/-- the top of what waits doesn't bind as b -/
def u_top (b : Nat) : List Nat → Prop
  | [] => True
  | s :: _ => s = 40 ∨ u_bond s < b
theorem u_W_top {b : Nat} (out : List uC) {st : List Nat} (h : u_top b st) : u_W b out st = (out, st) := by
  cases st with
  | nil => rfl
  | cons s st =>
    show (if s = 40 ∨ u_bond s < b then (out, s :: st) else u_W b (out ++ [(true, s)]) st) = _
    exact if_pos h
theorem u_top_le {b c : Nat} {st : List Nat} (h : u_top b st) (hb : b ≤ c) : u_top c st := by
  cases st with
  | nil => trivial
  | cons s st =>
    rcases h with h | h
    · exact Or.inl h
    · exact Or.inr (Nat.lt_of_lt_of_le h hb)
theorem u_W_push {b s : Nat} (out : List uC) (st : List Nat) (h1 : s ≠ 40) (h2 : b ≤ u_bond s) : u_W b out (s :: st) = u_W b (out ++ [(true, s)]) st := by
  show (if s = 40 ∨ u_bond s < b then (out, s :: st) else u_W b (out ++ [(true, s)]) st) = _
  rw [if_neg (fun w => by omega)]
/-- a place of the machine: the sign's place, what is written, what waits, how deep, compared -/
abbrev uS : Type := Nat × List uC × List Nat × Nat × (Nat → Bool)
def u_nx (sg : Nat → Nat) (m k : Nat) : Nat := if k < m then sg k else 0
def u_set (cmp : Nat → Bool) (j : Nat) (b : Bool) : Nat → Bool := fun i => if i = j then b else cmp i
/-- a number of one to three digits: what it is, the place behind it -/
def u_num (sg : Nat → Nat) (m k : Nat) : Nat × Nat := if S_dg sg m (k + 1) = true then (if S_dg sg m (k + 2) = true then (10 * (10 * (sg k - 48) + (sg (k + 1) - 48)) + (sg (k + 2) - 48), k + 3) else (10 * (sg k - 48) + (sg (k + 1) - 48), k + 2)) else (sg k - 48, k + 1)
abbrev uR : Type := (Bool × uS) ⊕ (Nat ⊕ List uC)
/-- ahead of a thing -/
def u_E (sg : Nat → Nat) (m : Nat) (z : uS) : uR :=
  if u_nx sg m z.1 = 45 then .inl (false, z.1 + 1, z.2.1, 256 :: z.2.2.1, z.2.2.2.1, z.2.2.2.2)
  else if z.2.2.2.1 < 4 ∧ u_nx sg m z.1 = 40 then .inl (false, z.1 + 1, z.2.1, 40 :: z.2.2.1, z.2.2.2.1 + 1, u_set z.2.2.2.2 (z.2.2.2.1 + 1) false)
  else if S_dg sg m z.1 = true then .inl (true, (u_num sg m z.1).2, z.2.1 ++ [(false, (u_num sg m z.1).1)], z.2.2.1, z.2.2.2.1, z.2.2.2.2)
  else if u_let (u_nx sg m z.1) = true then .inl (true, z.1 + 1, z.2.1 ++ [(true, u_nx sg m z.1)], z.2.2.1, z.2.2.2.1, z.2.2.2.2)
  else .inr (.inl z.1)
/-- behind one -/
def u_A (sg : Nat → Nat) (n m : Nat) (z : uS) : uR :=
  if 0 < z.2.2.2.1 ∧ u_nx sg m z.1 = 41 then .inl (true, z.1 + 1, (u_W 1 z.2.1 z.2.2.1).1, (u_W 1 z.2.1 z.2.2.1).2.tail, z.2.2.2.1 - 1, z.2.2.2.2)
  else if z.2.2.2.1 = 0 ∧ ¬ z.1 < m then .inr (if z.1 = n then .inr (u_W 0 z.2.1 z.2.2.1).1 else .inl z.1)
  else if u_bond (u_nx sg m z.1) = 0 ∨ (u_bond (u_nx sg m z.1) = 1 ∧ z.2.2.2.2 z.2.2.2.1 = true) then .inr (.inl z.1)
  else .inl (false, z.1 + 1, (u_W (u_bond (u_nx sg m z.1)) z.2.1 z.2.2.1).1, u_nx sg m z.1 :: (u_W (u_bond (u_nx sg m z.1)) z.2.1 z.2.2.1).2, z.2.2.2.1, if u_bond (u_nx sg m z.1) = 1 then u_set z.2.2.2.2 z.2.2.2.1 true else z.2.2.2.2)
def u_stp (sg : Nat → Nat) (n m : Nat) (z : Bool × uS) : uR := if z.1 = true then u_A sg n m z.2 else u_E sg m z.2
def u_run (sg : Nat → Nat) (n m : Nat) : Nat → Bool × uS → Option (Nat ⊕ List uC)
  | 0, _ => none
  | d + 1, z => match u_stp sg n m z with
    | .inl z => u_run sg n m d z
    | .inr r => some r
def u_R (sg : Nat → Nat) (n m : Nat) (z : Bool × uS) (r : Nat ⊕ List uC) : Prop := ∃ d, u_run sg n m d z = some r
section URUN
variable {sg : Nat → Nat} {n m : Nat}
theorem u_R_step {z z2 : Bool × uS} {r : Nat ⊕ List uC} (e : u_stp sg n m z = .inl z2) (h : u_R sg n m z2 r) : u_R sg n m z r := by
  obtain ⟨d, h⟩ := h
  refine ⟨d + 1, ?_⟩
  show (match u_stp sg n m z with | .inl z => u_run sg n m d z | .inr r => some r) = _
  rw [e]
  exact h
theorem u_R_end {z : Bool × uS} {r : Nat ⊕ List uC} (e : u_stp sg n m z = .inr r) : u_R sg n m z r := by
  refine ⟨1, ?_⟩
  show (match u_stp sg n m z with | .inl z => u_run sg n m 0 z | .inr r => some r) = _
  rw [e]
theorem u_run_pos {d : Nat} {z : Bool × uS} {r : Nat ⊕ List uC} (h : u_run sg n m d z = some r) : ∃ d2, d = d2 + 1 ∧ ((∃ z2, u_stp sg n m z = .inl z2 ∧ u_run sg n m d2 z2 = some r) ∨ u_stp sg n m z = .inr r) := by
  cases d with
  | zero => cases h
  | succ d =>
    refine ⟨d, rfl, ?_⟩
    change (match u_stp sg n m z with | .inl z => u_run sg n m d z | .inr r => some r) = _ at h
    cases e : u_stp sg n m z with
    | inl z2 =>
      rw [e] at h
      exact Or.inl ⟨z2, rfl, h⟩
    | inr r2 =>
      rw [e] at h
      cases h
      exact Or.inr rfl
end URUN
