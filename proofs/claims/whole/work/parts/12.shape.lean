/-! The shape of what lives at a block's head, written out -/
def px_r1 (t : Nat) (ls : pL) (i : Nat) : Option pV := match t with
  | 0 => none
  | 1 => some (.inl (px_gi ls i))
  | 2 => some (.inr (.inl (px_gr ls i)))
  | 3 => some (.inr (.inr (px_gl ls i)))
  | t + 4 => some (.inr (.inl (t + 4 - 10)))
def px_rc : List Nat → Nat → pL → pL
  | [], _, _ => []
  | t :: ts, i, ls => px_r1 t ls i :: px_rc ts (i + 1) ls
def px_q1 (t : Nat) (st : List pV) (i : Nat) : pV := match t with
  | 0 => .inl 0
  | 1 => .inl (px_si st i)
  | 2 => .inr (.inl (px_sr st i))
  | 3 => .inr (.inr (px_sl st i))
  | t + 4 => .inr (.inl (t + 4 - 10))
def px_rs : List Nat → Nat → List pV → List pV
  | [], _, _ => []
  | t :: ts, i, st => px_q1 t st i :: px_rs ts (i + 1) st
theorem px_r1_eq {t : Nat} {v : Option pV} {ls : pL} {i : Nat} (hn : px_nth ls i = some v) (h : px_fv1 t v = true) : px_cv1 t v = px_r1 t ls i := by
  match t, h with
  | 0, _ => rfl
  | 1, h =>
    match v, hn, h with
    | some (.inl x), hn, _ =>
      show (some (.inl x) : Option pV) = some (.inl (px_gi ls i))
      unfold px_gi
      rw [hn]
  | 2, h =>
    match v, hn, h with
    | some (.inr (.inl x)), hn, _ =>
      show (some (.inr (.inl x)) : Option pV) = some (.inr (.inl (px_gr ls i)))
      unfold px_gr
      rw [hn]
  | 3, h =>
    match v, hn, h with
    | some (.inr (.inr x)), hn, _ =>
      show (some (.inr (.inr x)) : Option pV) = some (.inr (.inr (px_gl ls i)))
      unfold px_gl
      rw [hn]
  | t + 4, h =>
    match v, hn, h with
    | some (.inr (.inl x)), hn, h =>
      show (some (.inr (.inl x)) : Option pV) = some (.inr (.inl (t + 4 - 10)))
      rw [Nat.eq_of_beq_eq_true h]
theorem px_rc_eq {ts : List Nat} {ls0 ls : pL} {i : Nat} (hd : ∀ j, px_nth ls j = px_nth ls0 (i + j)) (h : px_fit ts ls = true) : px_can ts ls = px_rc ts i ls0 := by
  induction ts generalizing ls i with
  | nil =>
    cases ls with
    | nil => rfl
    | cons a l => cases h
  | cons t ts ih =>
    cases ls with
    | nil => cases h
    | cons v l =>
      unfold px_fit at h
      rw [Bool.and_eq_true] at h
      show px_cv1 t v :: px_can ts l = px_r1 t ls0 i :: px_rc ts (i + 1) ls0
      rw [px_r1_eq (ls := ls0) (i := i) (hd 0).symm h.1, ih (fun j => ?_) h.2]
      have := hd (j + 1)
      rw [show i + 1 + j = i + (j + 1) by omega, ← this]
      rfl
theorem px_q1_eq {t : Nat} {v : pV} {st : List pV} {i : Nat} (h0 : Nat.beq t 0 = false) (hn : px_nth st i = some v) (h : px_fv1 t (some v) = true) : v = px_q1 t st i := by
  match t, h0, h with
  | 0, h0, _ => cases h0
  | 1, _, h =>
    match v, hn, h with
    | .inl x, hn, _ =>
      show (.inl x : pV) = .inl (px_si st i)
      unfold px_si
      rw [hn]
  | 2, _, h =>
    match v, hn, h with
    | .inr (.inl x), hn, _ =>
      show (.inr (.inl x) : pV) = .inr (.inl (px_sr st i))
      unfold px_sr
      rw [hn]
  | 3, _, h =>
    match v, hn, h with
    | .inr (.inr x), hn, _ =>
      show (.inr (.inr x) : pV) = .inr (.inr (px_sl st i))
      unfold px_sl
      rw [hn]
  | t + 4, _, h =>
    match v, hn, h with
    | .inr (.inl x), hn, h =>
      show (.inr (.inl x) : pV) = .inr (.inl (t + 4 - 10))
      rw [Nat.eq_of_beq_eq_true h]
theorem px_rs_eq {ts : List Nat} {st0 st : List pV} {i : Nat} (hd : ∀ j, px_nth st j = px_nth st0 (i + j)) (h : px_fits ts st = true) : st = px_rs ts i st0 := by
  induction ts generalizing st i with
  | nil =>
    cases st with
    | nil => rfl
    | cons a l => cases h
  | cons t ts ih =>
    cases st with
    | nil => cases h
    | cons v l =>
      unfold px_fits at h
      rw [Bool.and_eq_true, Bool.and_eq_true] at h
      show v :: l = px_q1 t st0 i :: px_rs ts (i + 1) st0
      have h0 : Nat.beq t 0 = false := by
        cases hq : Nat.beq t 0 with
        | false => rfl
        | true => rw [hq] at h; exact absurd h.1.1 (by decide)
      rw [← px_q1_eq (st := st0) (i := i) h0 (hd 0).symm h.1.2, ← ih (i := i + 1) (fun j => ?_) h.2]
      have := hd (j + 1)
      rw [show i + 1 + j = i + (j + 1) by omega, ← this]
      rfl
theorem px_ko {d : Nat} {M : pM} {T : Nat} {ts ss : List Nat} {g : pL → List pV → pH → pR} (hg : ∀ ls st h q, g ls st h = some q → px_G d M T (px_rc ts 0 ls) (px_rs ss 0 st) h q) : px_Kok d M (T, fun ls st h => px_if (px_fit ts ls && px_fits ss st) (g ls st h)) :=
  px_Kok_of fun ls st h q h1 h2 e => by
    rw [px_rc_eq (ls0 := ls) (i := 0) (fun j => by rw [Nat.zero_add]) h1]
    have h3 := hg ls st h q e
    rw [← px_rs_eq (st0 := st) (i := 0) (fun j => by rw [Nat.zero_add]) h2] at h3
    exact h3
theorem px_k0 {d : Nat} {M : pM} : ∀ r ∈ ([] : List (Nat × (pL → List pV → pH → pR))), px_Kok d M r := fun _ h => absurd h List.not_mem_nil
theorem px_k1 {d : Nat} {M : pM} {r : Nat × (pL → List pV → pH → pR)} {l : List (Nat × (pL → List pV → pH → pR))} (h : px_Kok d M r) (hl : ∀ r ∈ l, px_Kok d M r) : ∀ z ∈ r :: l, px_Kok d M z := List.forall_mem_cons.mpr ⟨h, hl⟩
theorem px_o0 {d : Nat} : ∀ r ∈ ([] : List (Nat × (List pV → pH → pR))), px_Ook d r := fun _ h => absurd h List.not_mem_nil
theorem px_o1 {d : Nat} {r : Nat × (List pV → pH → pR)} {l : List (Nat × (List pV → pH → pR))} (h : px_Ook d r) (hl : ∀ r ∈ l, px_Ook d r) : ∀ z ∈ r :: l, px_Ook d z := List.forall_mem_cons.mpr ⟨h, hl⟩
/-- how often a loop may go round: a number that the kernel doesn't count down -/
theorem px_F_ex : ∃ n : Nat, n = 2097152 := ⟨_, rfl⟩
noncomputable def px_F : Nat := Classical.choose px_F_ex
theorem px_F_eq : px_F = 2097152 := Classical.choose_spec px_F_ex
