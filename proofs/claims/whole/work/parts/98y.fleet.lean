/-! Layer B: boats of two: the pure picture -/
def Y_f (x : Nat) : Nat := B_first (fun b => x.testBit b) 0 6
def Y_w (x a b : Nat) : Nat := x &&& (63 ^^^ (2 ^ a ||| 2 ^ b))
theorem Y_f_in : ∀ x, x < 64 → x ≠ 0 → Y_f x < 6 ∧ x.testBit (Y_f x) = true := by decide +kernel
theorem Y_f_lo : ∀ x, x < 64 → ∀ c, c < 6 → c < Y_f x → x.testBit c = false := by decide +kernel
theorem Y_f_eq : ∀ x, x < 64 → ∀ a, a < 6 → x.testBit a = true → (∀ c, c < a → x.testBit c = false) → Y_f x = a := by decide +kernel
theorem Y_hi {x c : Nat} (hx : x < 64) (hc : 6 ≤ c) : x.testBit c = false := Nat.testBit_lt_two_pow (Nat.lt_of_lt_of_le hx (by
  have := Nat.pow_le_pow_right (show 0 < 2 by omega) hc
  omega))
theorem Y_w_lt : ∀ x, x < 64 → ∀ a, a < 6 → ∀ b, b < 6 → x.testBit a = true → Y_w x a b < x := by decide +kernel
theorem Y_w_le (x a b : Nat) : Y_w x a b ≤ x := Nat.and_le_left
theorem Y_w_bit : ∀ x, x < 64 → ∀ a, a < 6 → ∀ b, b < 6 → ∀ c, c < 6 → (Y_w x a b).testBit c = (x.testBit c && !decide (c = a) && !decide (c = b)) := by decide +kernel
theorem Y_w_int : ∀ x, x < 64 → ∀ a, a < 6 → ∀ b, b < 6 → nI x &&& (((nI 1 <<< (nI a &&& 31)) ||| (nI 1 <<< (nI b &&& 31))) ^^^ -1) = nI (Y_w x a b) := by decide +kernel
theorem Y_bit : ∀ x, x < 64 → ∀ b, b < 32 → B_bit (nI x) b = x.testBit b := by decide +kernel
theorem Y_tz : ∀ x, x < 64 → x ≠ 0 → J_tz (nI x) = nI (Y_f x) := by decide +kernel
theorem Y_zero {x : Nat} (hx : x < 64) (h : ∀ c, c < 6 → x.testBit c = false) : x = 0 := by
  apply Nat.eq_of_testBit_eq
  intro c
  rw [Nat.zero_testBit]
  by_cases hc : c < 6
  · exact h c hc
  · exact Y_hi hx (by omega)
section FLEET
variable {pr : Nat → Nat → Bool}
def Y_g (pr : Nat → Nat → Bool) (V : Nat → Nat) (x b : Nat) (acc : Nat × Nat) : Nat × Nat := if (x.testBit b = true ∧ pr (Y_f x) b = true) ∧ 1 + V (Y_w x (Y_f x) b) < acc.1 then (1 + V (Y_w x (Y_f x) b), b) else acc
theorem Y_g_cong {V V' : Nat → Nat} {x b : Nat} (acc : Nat × Nat) (h : V (Y_w x (Y_f x) b) = V' (Y_w x (Y_f x) b)) : Y_g pr V x b acc = Y_g pr V' x b acc := by
  unfold Y_g
  simp only [h]
def Y_vp (pr : Nat → Nat → Bool) : Nat → Nat → Nat × Nat
  | 0, _ => (0, 0)
  | n + 1, x => if x = 0 then (0, 0) else B_fold (Y_g pr (fun y => (Y_vp pr n y).1) x) (Y_f x) (6 - Y_f x) (7, Y_f x)
def Y_V (pr : Nat → Nat → Bool) (x : Nat) : Nat := (Y_vp pr x x).1
def Y_P (pr : Nat → Nat → Bool) (x : Nat) : Nat := (Y_vp pr x x).2
theorem Y_fuel : ∀ n x m, x ≤ n → x ≤ m → x < 64 → Y_vp pr n x = Y_vp pr m x := by
  intro n
  induction n with
  | zero =>
    intro x m h1 h2 _
    have : x = 0 := by omega
    subst this
    cases m with
    | zero => rfl
    | succ m => exact (if_pos rfl).symm
  | succ n ih =>
    intro x m h1 h2 h3
    by_cases h0 : x = 0
    · subst h0
      cases m with
      | zero => exact if_pos rfl
      | succ m =>
        unfold Y_vp
        rw [if_pos rfl, if_pos rfl]
    · obtain ⟨m, rfl⟩ : ∃ k, m = k + 1 := ⟨m - 1, by omega⟩
      obtain ⟨f1, f2⟩ := Y_f_in x h3 h0
      unfold Y_vp
      rw [if_neg h0, if_neg h0]
      refine B_fold_eq _ _ _ (fun b hb1 hb2 acc => ?_)
      have hl := Y_w_lt x h3 (Y_f x) f1 b (by omega) f2
      exact Y_g_cong acc (by
        show (Y_vp pr n _).1 = (Y_vp pr m _).1
        rw [ih (Y_w x (Y_f x) b) m (by omega) (by omega) (by omega)])
theorem Y_vp_eq {x : Nat} (hx : x < 64) (h0 : x ≠ 0) : Y_vp pr x x = B_fold (Y_g pr (Y_V pr) x) (Y_f x) (6 - Y_f x) (7, Y_f x) := by
  obtain ⟨n, rfl⟩ : ∃ k, x = k + 1 := ⟨x - 1, by omega⟩
  obtain ⟨f1, f2⟩ := Y_f_in (n + 1) hx h0
  conv => lhs; unfold Y_vp
  rw [if_neg h0]
  refine B_fold_eq _ _ _ (fun b hb1 hb2 acc => ?_)
  have hl := Y_w_lt (n + 1) hx (Y_f (n + 1)) f1 b (by omega) f2
  exact Y_g_cong acc (by
    show (Y_vp pr n _).1 = (Y_vp pr _ _).1
    rw [Y_fuel n (Y_w (n + 1) (Y_f (n + 1)) b) (Y_w (n + 1) (Y_f (n + 1)) b) (by omega) (Nat.le_refl _) (by omega)])
theorem Y_V_0 : Y_V pr 0 = 0 := rfl
/-- as far as some of them are gone through -/
def Y_a (pr : Nat → Nat → Bool) (x n : Nat) : Nat × Nat := B_fold (Y_g pr (Y_V pr) x) (Y_f x) n (7, Y_f x)
theorem Y_V_eq {x : Nat} (hx : x < 64) (h0 : x ≠ 0) : Y_V pr x = (Y_a pr x (6 - Y_f x)).1 ∧ Y_P pr x = (Y_a pr x (6 - Y_f x)).2 := by
  unfold Y_V Y_P
  rw [Y_vp_eq hx h0]
  exact ⟨rfl, rfl⟩
theorem Y_a_snoc (x n : Nat) : Y_a pr x (n + 1) = Y_g pr (Y_V pr) x (Y_f x + n) (Y_a pr x n) := by
  unfold Y_a
  rw [B_fold_add]
  rfl
theorem Y_a_le7 (x : Nat) : ∀ n, (Y_a pr x n).1 ≤ 7 := by
  intro n
  induction n with
  | zero => exact Nat.le_refl _
  | succ n ih =>
    rw [Y_a_snoc]
    unfold Y_g
    split
    · rename_i h
      have := h.2
      show 1 + _ ≤ 7
      omega
    · exact ih
theorem Y_V_le7 {x : Nat} (hx : x < 64) : Y_V pr x ≤ 7 := by
  by_cases h0 : x = 0
  · subst h0
    exact Nat.zero_le _
  · rw [(Y_V_eq hx h0).1]
    exact Y_a_le7 x _
/-- one more boat, one less who could go first -/
theorem Y_V_b : ∀ n x, x ≤ n → x < 64 → x ≠ 0 → Y_V pr x = 7 ∨ Y_V pr x ≤ 6 - Y_f x := by
  intro n
  induction n with
  | zero => intro x h1 _ h0; omega
  | succ n ih =>
    intro x h1 hx h0
    obtain ⟨f1, f2⟩ := Y_f_in x hx h0
    rw [(Y_V_eq hx h0).1]
    have : ∀ m, m ≤ 6 - Y_f x → (Y_a pr x m).1 = 7 ∨ (Y_a pr x m).1 ≤ 6 - Y_f x := by
      intro m
      induction m with
      | zero => intro _; exact Or.inl rfl
      | succ m im =>
        intro hm
        have h2 := im (by omega)
        rw [Y_a_snoc]
        unfold Y_g
        split
        · rename_i h
          have h3 := h.2
          have hl := Y_w_lt x hx (Y_f x) f1 (Y_f x + m) (by omega) f2
          show 1 + Y_V pr _ = 7 ∨ 1 + Y_V pr _ ≤ _
          by_cases h4 : Y_w x (Y_f x) (Y_f x + m) = 0
          · rw [h4, Y_V_0]
            omega
          · have h5 := ih _ (by omega) (by omega) h4
            have h7 := Y_a_le7 (pr := pr) x m
            obtain ⟨g1, g2⟩ := Y_f_in _ (show Y_w x (Y_f x) (Y_f x + m) < 64 by omega) h4
            have hgt : Y_f x < Y_f (Y_w x (Y_f x) (Y_f x + m)) := by
              have e := Y_w_bit x hx (Y_f x) f1 (Y_f x + m) (by omega) _ g1
              rw [g2] at e
              have e2 := e.symm
              simp only [Bool.and_eq_true, Bool.not_eq_true', decide_eq_false_iff_not] at e2
              by_cases c : Y_f (Y_w x (Y_f x) (Y_f x + m)) < Y_f x
              · have := Y_f_lo x hx _ g1 c
                rw [this] at e2
                exact absurd e2.1.1 (by decide)
              · omega
            omega
        · exact h2
    exact this _ (Nat.le_refl _)
theorem Y_V_6 {x : Nat} (hx : x < 64) : Y_V pr x ≠ 6 ∨ Y_f x = 0 := by
  by_cases h0 : x = 0
  · subst h0
    left
    rw [Y_V_0]
    omega
  · rcases Y_V_b (pr := pr) x x (Nat.le_refl _) hx h0 with h | h
    · left; omega
    · by_cases c : Y_f x = 0
      · exact Or.inr c
      · left; omega
/-- a boat that can go, and is wanted -/
def Y_ok (pr : Nat → Nat → Bool) (x b : Nat) : Prop := x.testBit b = true ∧ pr (Y_f x) b = true
/-- the first of the best -/
theorem Y_a_sp (x : Nat) : ∀ n, ((Y_a pr x n).1 < 7 → Y_f x ≤ (Y_a pr x n).2 ∧ (Y_a pr x n).2 < Y_f x + n ∧ Y_ok pr x (Y_a pr x n).2 ∧ 1 + Y_V pr (Y_w x (Y_f x) (Y_a pr x n).2) = (Y_a pr x n).1 ∧ ∀ b, Y_f x ≤ b → b < (Y_a pr x n).2 → Y_ok pr x b → (Y_a pr x n).1 < 1 + Y_V pr (Y_w x (Y_f x) b)) ∧ ∀ b, Y_f x ≤ b → b < Y_f x + n → Y_ok pr x b → (Y_a pr x n).1 ≤ 1 + Y_V pr (Y_w x (Y_f x) b) := by
  intro n
  induction n with
  | zero => exact ⟨fun h => by change 7 < 7 at h; omega, fun b h1 h2 => by omega⟩
  | succ n ih =>
    obtain ⟨i1, i2⟩ := ih
    rw [Y_a_snoc]
    unfold Y_g
    by_cases c : (x.testBit (Y_f x + n) = true ∧ pr (Y_f x) (Y_f x + n) = true) ∧ 1 + Y_V pr (Y_w x (Y_f x) (Y_f x + n)) < (Y_a pr x n).1
    · rw [if_pos c]
      dsimp only
      refine ⟨fun _ => ⟨by omega, by omega, c.1, rfl, fun b h1 h2 h3 => ?_⟩, fun b h1 h2 h3 => ?_⟩
      · have := i2 b h1 (by omega) h3
        omega
      · by_cases e : b = Y_f x + n
        · rw [e]
          exact Nat.le_refl _
        · have := i2 b h1 (by omega) h3
          omega
    · rw [if_neg c]
      refine ⟨fun h => ?_, fun b h1 h2 h3 => ?_⟩
      · obtain ⟨j1, j2, j3, j4, j5⟩ := i1 h
        exact ⟨j1, by omega, j3, j4, j5⟩
      · by_cases e : b = Y_f x + n
        · subst e
          have : ¬ 1 + Y_V pr (Y_w x (Y_f x) (Y_f x + n)) < (Y_a pr x n).1 := fun w => c ⟨h3, w⟩
          omega
        · exact i2 b h1 (by omega) h3
theorem Y_P_sp {x : Nat} (hx : x < 64) (h0 : x ≠ 0) (h7 : Y_V pr x < 7) : Y_f x ≤ Y_P pr x ∧ Y_P pr x < 6 ∧ Y_ok pr x (Y_P pr x) ∧ 1 + Y_V pr (Y_w x (Y_f x) (Y_P pr x)) = Y_V pr x ∧ ∀ b, Y_f x ≤ b → b < Y_P pr x → Y_ok pr x b → Y_V pr x < 1 + Y_V pr (Y_w x (Y_f x) b) := by
  obtain ⟨f1, f2⟩ := Y_f_in x hx h0
  obtain ⟨e1, e2⟩ := Y_V_eq (pr := pr) hx h0
  rw [e1] at h7
  obtain ⟨i1, -⟩ := Y_a_sp (pr := pr) x (6 - Y_f x)
  obtain ⟨j1, j2, j3, j4, j5⟩ := i1 h7
  rw [e2, e1]
  exact ⟨j1, by omega, j3, j4, j5⟩
/-- who goes with whom -/
def Y_up (m : Nat → Int32) (a p : Nat) : Nat → Int32 := fun c => if c = p then nI a else if c = a then nI p else m c
def Y_S (pr : Nat → Nat → Bool) : Nat → Nat → (Nat → Int32) → Nat → Int32
  | 0, _, m => m
  | n + 1, x, m => if x = 0 then m else Y_S pr n (Y_w x (Y_f x) (Y_P pr x)) (Y_up m (Y_f x) (Y_P pr x))
theorem Y_S_fuel : ∀ n x n' m, x ≤ n → x ≤ n' → x < 64 → Y_V pr x < 7 → Y_S pr n x m = Y_S pr n' x m := by
  intro n
  induction n with
  | zero =>
    intro x n' m h1 h2 _ _
    have : x = 0 := by omega
    subst this
    cases n' with
    | zero => rfl
    | succ n' => exact (if_pos rfl).symm
  | succ n ih =>
    intro x n' m h1 h2 h3 h7
    by_cases h0 : x = 0
    · subst h0
      cases n' with
      | zero => exact if_pos rfl
      | succ n' =>
        unfold Y_S
        rw [if_pos rfl, if_pos rfl]
    · obtain ⟨n', rfl⟩ : ∃ k, n' = k + 1 := ⟨n' - 1, by omega⟩
      obtain ⟨f1, f2⟩ := Y_f_in x h3 h0
      obtain ⟨p1, p2, p3, p4, p5⟩ := Y_P_sp h3 h0 h7
      have hl := Y_w_lt x h3 (Y_f x) f1 (Y_P pr x) p2 f2
      unfold Y_S
      rw [if_neg h0, if_neg h0]
      exact ih _ n' _ (by omega) (by omega) (by omega) (by omega)
theorem Y_S_step {x n : Nat} {m : Nat → Int32} (hx : x < 64) (h0 : x ≠ 0) (hn : x ≤ n) (h7 : Y_V pr x < 7) : Y_S pr n x m = Y_S pr n (Y_w x (Y_f x) (Y_P pr x)) (Y_up m (Y_f x) (Y_P pr x)) := by
  obtain ⟨f1, f2⟩ := Y_f_in x hx h0
  obtain ⟨p1, p2, p3, p4, p5⟩ := Y_P_sp hx h0 h7
  have hl := Y_w_lt x hx (Y_f x) f1 (Y_P pr x) p2 f2
  obtain ⟨n, rfl⟩ : ∃ k, n = k + 1 := ⟨n - 1, by omega⟩
  conv => lhs; unfold Y_S
  rw [if_neg h0]
  exact Y_S_fuel n _ (n + 1) _ (by omega) (by omega) (by omega) (by omega)
theorem Y_S_ext : ∀ n x (m m' : Nat → Int32), x ≤ n → x < 64 → Y_V pr x < 7 → ∀ c, c < 6 → (x.testBit c = true ∨ m c = m' c) → Y_S pr n x m c = Y_S pr n x m' c := by
  intro n
  induction n with
  | zero =>
    intro x m m' h1 h3 _ c hc h
    have : x = 0 := by omega
    subst this
    rcases h with h | h
    · rw [Nat.zero_testBit] at h
      cases h
    · exact h
  | succ n ih =>
    intro x m m' h1 h3 h7 c hc h
    by_cases h0 : x = 0
    · subst h0
      unfold Y_S
      rw [if_pos rfl, if_pos rfl]
      rcases h with h | h
      · rw [Nat.zero_testBit] at h
        cases h
      · exact h
    · obtain ⟨f1, f2⟩ := Y_f_in x h3 h0
      obtain ⟨p1, p2, p3, p4, p5⟩ := Y_P_sp h3 h0 h7
      have hl := Y_w_lt x h3 (Y_f x) f1 (Y_P pr x) p2 f2
      unfold Y_S
      rw [if_neg h0, if_neg h0]
      refine ih _ _ _ (by omega) (by omega) (by omega) c hc ?_
      rw [Y_w_bit x h3 _ f1 _ p2 c hc]
      unfold Y_up
      by_cases c1 : c = Y_P pr x
      · right
        rw [if_pos c1, if_pos c1]
      · by_cases c2 : c = Y_f x
        · right
          rw [if_neg c1, if_neg c1, if_pos c2, if_pos c2]
        · rw [if_neg c1, if_neg c1, if_neg c2, if_neg c2, decide_eq_false c1, decide_eq_false c2]
          rcases h with h | h
          · left
            rw [h]
            rfl
          · exact Or.inr h
/-- those told -/
def Y_l (x : Nat) (m : Nat → Int32) : Nat → List Int32
  | 0 => []
  | k + 1 => Y_l x m k ++ (if x.testBit k = true then [m k] else [])
theorem Y_l_len (x : Nat) (m : Nat → Int32) : ∀ k, (Y_l x m k).length ≤ k := by
  intro k
  induction k with
  | zero => exact Nat.le_refl _
  | succ k ih =>
    show (Y_l x m k ++ _).length ≤ k + 1
    rw [List.length_append]
    split
    · show _ + 1 ≤ _
      omega
    · show _ + 0 ≤ _
      omega
theorem Y_l_ext {x : Nat} {m m' : Nat → Int32} : ∀ k, (∀ c, c < k → x.testBit c = true → m c = m' c) → Y_l x m k = Y_l x m' k := by
  intro k
  induction k with
  | zero => intro _; rfl
  | succ k ih =>
    intro h
    show Y_l x m k ++ _ = Y_l x m' k ++ _
    rw [ih (fun c hc => h c (by omega))]
    by_cases c : x.testBit k = true
    · rw [if_pos c, if_pos c, h k (by omega) c]
    · rw [if_neg c, if_neg c]
theorem Y_l_up {x : Nat} {m : Nat → Int32} {k : Nat} (h : ∀ c, k ≤ c → x.testBit c = false) : ∀ j, Y_l x m (k + j) = Y_l x m k := by
  intro j
  induction j with
  | zero => rfl
  | succ j ih =>
    show Y_l x m (k + j) ++ (if x.testBit (k + j) = true then [m (k + j)] else []) = _
    rw [if_neg (by rw [h (k + j) (by omega)]; decide), List.append_nil, ih]
end FLEET
