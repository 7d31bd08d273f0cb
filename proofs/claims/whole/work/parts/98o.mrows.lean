/-! Layer B: the reference goes through rows of one length -/
section EF
variable {α ρ : Type}
def E_f (g : Nat → α → Option ρ × α) : Nat → Nat → α → Option ρ × α
  | _, 0, a => (none, a)
  | k, m + 1, a => match g k a with
    | (some x, a') => (some x, a')
    | (none, a') => E_f g (k + 1) m a'
theorem E_f_end {g : Nat → α → Option ρ × α} : ∀ m k a, (∀ j, k ≤ j → j < k + m → ∀ a, g j a = (none, a)) → E_f g k m a = (none, a) := by
  intro m
  induction m with
  | zero => intro k a _; rfl
  | succ m ih =>
    intro k a h
    unfold E_f
    rw [h k (Nat.le_refl _) (by omega)]
    exact ih (k + 1) a (fun j h1 h2 => h j (by omega) (by omega))
theorem E_f_add {g : Nat → α → Option ρ × α} : ∀ m j k a, (∀ i, k + m ≤ i → i < k + m + j → ∀ a, g i a = (none, a)) → E_f g k (m + j) a = E_f g k m a := by
  intro m
  induction m with
  | zero =>
    intro j k a h
    rw [Nat.zero_add]
    exact E_f_end j k a (fun i h1 h2 => h i (by omega) (by omega))
  | succ m ih =>
    intro j k a h
    rw [show m + 1 + j = (m + j) + 1 by omega]
    unfold E_f
    cases hg : g k a with
    | mk o a' =>
      cases o with
      | some x => rfl
      | none => exact ih j (k + 1) a' (fun i h1 h2 => h i (by omega) (by omega))
def E_t (ok : List Nat → Nat → Bool) (st : List Nat → Bool) (bd : List Nat → α → α) : Nat → List Nat → α → Option (List Nat) × α
  | 0, r, a => (if st r = true then some r else none, bd r a)
  | n + 1, r, a => E_f (fun t a => if ok r t = true then E_t ok st bd n (r ++ [t]) a else (none, a)) 0 10 a
/-- where nothing stops it, it is a plain count -/
def E_v (ok : List Nat → Nat → Bool) (bd : List Nat → α → α) : Nat → List Nat → α → α
  | 0, r, a => bd r a
  | n + 1, r, a => B_fold (fun t a => if ok r t = true then E_v ok bd n (r ++ [t]) a else a) 0 10 a
theorem E_f_fold {g : Nat → α → Option ρ × α} {f : Nat → α → α} (h : ∀ k a, g k a = (none, f k a)) : ∀ m k a, E_f g k m a = (none, B_fold f k m a) := by
  intro m
  induction m with
  | zero => intro k a; rfl
  | succ m ih =>
    intro k a
    unfold E_f
    rw [h k a]
    exact ih (k + 1) (f k a)
theorem E_t_v {ok : List Nat → Nat → Bool} {bd : List Nat → α → α} : ∀ n r a, E_t ok (fun _ => false) bd n r a = (none, E_v ok bd n r a) := by
  intro n
  induction n with
  | zero => intro r a; rfl
  | succ n ih =>
    intro r a
    unfold E_t E_v
    refine E_f_fold (fun t a => ?_) 10 0 a
    by_cases c : ok r t = true
    · rw [if_pos c, if_pos c, ih]
    · rw [if_neg c, if_neg c]
theorem E_t_x {ok : List Nat → Nat → Bool} {st : List Nat → Bool} : ∀ n r, E_t ok st (fun _ (a : Unit) => a) n r () = (F_x ok st n r, ()) := by
  intro n
  induction n with
  | zero => intro r; rfl
  | succ n ih =>
    intro r
    unfold E_t F_x
    have H : ∀ m k, E_f (fun t (a : Unit) => if ok r t = true then E_t ok st (fun _ (a : Unit) => a) n (r ++ [t]) a else (none, a)) k m () = (L_fst (fun t => if ok r t = true then F_x ok st n (r ++ [t]) else none) k m, ()) := by
      intro m
      induction m with
      | zero => intro k; rfl
      | succ m im =>
        intro k
        unfold E_f L_fst
        by_cases c : ok r k = true
        · rw [if_pos c, if_pos c, ih]
          cases F_x ok st n (r ++ [k]) with
          | some x => rfl
          | none => exact im (k + 1)
        · rw [if_neg c, if_neg c]
          exact im (k + 1)
    exact H 10 0
theorem E_f_cn {g : Nat → α → Option ρ × α} {cn : α → Nat} {c : Nat} (h : ∀ k a, cn (g k a).2 ≤ cn a + c) : ∀ m k a, cn (E_f g k m a).2 ≤ cn a + m * c := by
  intro m
  induction m with
  | zero => intro k a; exact Nat.le_add_right _ _
  | succ m ih =>
    intro k a
    have h1 := h k a
    rw [Nat.succ_mul]
    unfold E_f
    cases hg : g k a with
    | mk o a' =>
      rw [hg] at h1
      have h1' : cn a' ≤ cn a + c := h1
      cases o with
      | some x =>
        show cn a' ≤ _
        omega
      | none =>
        have := ih (k + 1) a'
        show cn (E_f g (k + 1) m a').2 ≤ _
        omega
theorem E_t_cn {ok : List Nat → Nat → Bool} {st : List Nat → Bool} {bd : List Nat → α → α} {cn : α → Nat} (h : ∀ r a, cn (bd r a) ≤ cn a + 1) : ∀ n r a, cn (E_t ok st bd n r a).2 ≤ cn a + 10 ^ n := by
  intro n
  induction n with
  | zero => intro r a; exact h r a
  | succ n ih =>
    intro r a
    have := E_f_cn (g := fun t a => if ok r t = true then E_t ok st bd n (r ++ [t]) a else (none, a)) (cn := cn) (c := 10 ^ n) (fun k a => by
      split
      · exact ih _ _
      · exact Nat.le_add_right _ _) 10 0 a
    rw [Nat.pow_succ, Nat.mul_comm]
    exact this
end EF
/-- what goes through the rows writes -/
def E_q : Nat → Nat → Bool := fun a k => match a with
  | 51 => [15, 16, 17, 18, 19, 27, 30, 31, 32, 33, 45, 46, 47, 50].contains k
  | 64 => true
  | 65 => true
  | 68 => true
  | 71 => true
  | 72 => true
  | _ => false
theorem E_q_sd : ∀ a k, E_q a k = true → B_sd a k = true := fun a k e => by
  unfold E_q at e
  split at e
  · have : k = 15 ∨ k = 16 ∨ k = 17 ∨ k = 18 ∨ k = 19 ∨ k = 27 ∨ k = 30 ∨ k = 31 ∨ k = 32 ∨ k = 33 ∨ k = 45 ∨ k = 46 ∨ k = 47 ∨ k = 50 := by simpa using e
    rcases this with rfl | rfl | rfl | rfl | rfl | rfl | rfl | rfl | rfl | rfl | rfl | rfl | rfl | rfl <;> rfl
  · rfl
  · rfl
  · rfl
  · rfl
  · rfl
  · cases e
theorem E_g_q : ∀ a k, E_g 68 a k = true → E_q a k = true := fun a k e => by
  unfold E_g at e
  split at e
  · have : k = 15 ∨ k = 16 ∨ k = 17 ∨ k = 18 ∨ k = 19 ∨ k = 27 ∨ k = 31 ∨ k = 32 ∨ k = 33 := by simpa using e
    rcases this with rfl | rfl | rfl | rfl | rfl | rfl | rfl | rfl | rfl <;> rfl
  · rfl
  · have := Nat.eq_of_beq_eq_true e
    subst this
    rfl
section MROWS
variable {h : pH} {P T K Y p b : Nat} {Z : pH} {ev : pE} {ab : Int32} {r : List Nat}
/-- the reference's search, but the row -/
def Ms (h : pH) (P T K Y : Nat) (Z : pH) (ev : pE) (ab : Int32) (p b : Nat) : Prop := M_h h P T K Y Z ev ∧ R_a h 70 P T Z ∧ h 51 41 = ab ∧ h 51 42 = nI p ∧ h 51 43 = nI b
theorem Ms.fr {h' : pH} (M : Ms h P T K Y Z ev ab p b) (x : B_fr E_q h h') : Ms h' P T K Y Z ev ab p b := by
  obtain ⟨⟨R, E⟩, A, e1, e2, e3⟩ := M
  refine ⟨⟨?_, ?_⟩, A.cell (x.row 70 (fun _ => rfl)), by rw [x 51 41 rfl]; exact e1, by rw [x 51 42 rfl]; exact e2, by rw [x 51 43 rfl]; exact e3⟩
  · unfold R_k at *
    rw [x 51 4 rfl, x 51 6 rfl, x 51 2 rfl, x 51 1 rfl, x.row 54 (fun _ => rfl), x.row 55 (fun _ => rfl), x.row 56 (fun _ => rfl), x.row 57 (fun _ => rfl), x.row 53 (fun _ => rfl)]
    exact R
  · rw [x 51 26 rfl, x.row 63 (fun _ => rfl)]
    exact E
theorem M_row.snoc {t : Nat} (C : M_row h r) (hl : r.length < 6) : M_row (px_w (px_w h 65 r.length (nI t)) 51 30 (nI (r.length + 1))) (r ++ [t]) := by
  have l1 : (r ++ [t]).length = r.length + 1 := by rw [List.length_append, List.length_singleton]
  refine ⟨by rw [B_w_same, l1], by omega, fun k hk => ?_⟩
  rw [l1] at hk
  rw [B_w_cell _ _ _ (show (65 : Nat) ≠ 51 by decide), B_w_at]
  by_cases e : k = r.length
  · subst e
    rw [if_pos rfl, Z_getD_last]
  · rw [if_neg e, Z_getD_pre r t (by omega)]
    exact C.2.2 k (by omega)
theorem M_row.unsnoc {t : Nat} (C : M_row h (r ++ [t])) : M_row (px_w h 51 30 (nI r.length)) r := by
  have l1 : (r ++ [t]).length = r.length + 1 := by rw [List.length_append, List.length_singleton]
  have := C.2.1
  refine ⟨B_w_same _ _ _ _, by omega, fun k hk => ?_⟩
  rw [B_w_cell _ _ _ (show (65 : Nat) ≠ 51 by decide), C.2.2 k (by omega), Z_getD_pre r t hk]
theorem mo_goRow_s {α : Type} (A : α → pH → Prop) (bd : List Nat → α → α) (st : List Nat → Bool) (cn : α → Nat) (hcn : ∀ r a, cn (bd r a) ≤ cn a + 1) (x2 : Int32) (many : Nat) (hmany : many ≤ 4) (W : R_w P T K Y Z) (HA : ∀ a h h', A a h → (∀ c k, ¬ c = 65 → ¬ (c = 51 ∧ k = 30) → h' c k = h c k) → A a h') (HE : ∀ r a h, cn a < 20000 → r.length = many → Z_v Z T ab r → Ms h P T K Y Z ev ab p b → M_row h r → A a h → ∃ h', mo_endRow x2 h = some (B_01 (st r), h') ∧ A (bd r a) h' ∧ B_fr E_q h h' ∧ M_row h' r) : ∀ (n g : Nat) (r : List Nat) (a : α) (h : pH), cn a + 10 ^ n ≤ 20000 → r.length + n = many → n ≤ g → Z_v Z T ab r → Ms h P T K Y Z ev ab p b → M_row h r → A a h → ∃ h', mo_goRow (mo_goRowG g) (nI many) x2 h = some (B_01 (E_t (Z_ok Z T ab) st bd n r a).1.isSome, h') ∧ A (E_t (Z_ok Z T ab) st bd n r a).2 h' ∧ B_fr E_q h h' ∧ M_row h' ((E_t (Z_ok Z T ab) st bd n r a).1.getD r) := by
  have h10 := W.2.1
  intro n
  induction n with
  | zero =>
    intro g r a h hc hr hg hv M Mr Aa
    obtain ⟨h', x1, x2, x3, x4⟩ := HE r a h (by rw [Nat.pow_zero] at hc; omega) hr hv M Mr Aa
    refine ⟨h', ?_, x2, x3, ?_⟩
    · unfold mo_goRow
      rw [if_pos (by rw [Mr.1, ← hr]; rfl), x1, B_bind, B_01_bz]
      unfold E_t
      cases st r <;> rfl
    · unfold E_t
      cases st r <;> exact x4
  | succ n ih =>
    intro g r a h hc hr hg hv M Mr Aa
    rw [Nat.pow_succ, Nat.mul_comm] at hc
    have hct := E_t_cn (ok := Z_ok Z T ab) (st := st) hcn n
    obtain ⟨g, rfl⟩ : ∃ g', g = g' + 1 := ⟨g - 1, by omega⟩
    have H : ∀ (m t n' : Nat) (a : α) (h : pH), cn a + m * 10 ^ n ≤ 20000 → t + m = T → m < n' → Ms h P T K Y Z ev ab p b → M_row h r → A a h → ∃ h', mo_goRow_16 (mo_goRowG (g + 1)) n' (nI many) x2 (nI t) h = some (B_01 (E_f (fun t a => if Z_ok Z T ab r t = true then E_t (Z_ok Z T ab) st bd n (r ++ [t]) a else (none, a)) t m a).1.isSome, h') ∧ A (E_f (fun t a => if Z_ok Z T ab r t = true then E_t (Z_ok Z T ab) st bd n (r ++ [t]) a else (none, a)) t m a).2 h' ∧ B_fr E_q h h' ∧ M_row h' ((E_f (fun t a => if Z_ok Z T ab r t = true then E_t (Z_ok Z T ab) st bd n (r ++ [t]) a else (none, a)) t m a).1.getD r) := by
      intro m
      induction m with
      | zero =>
        intro t n' a h hc ht hn M Mr Aa
        obtain ⟨n', rfl⟩ : ∃ n2, n' = n2 + 1 := ⟨n' - 1, by omega⟩
        have mT := M.1.1.2.1
        refine ⟨h, ?_, Aa, B_fr.refl _ _, Mr⟩
        show (if h 51 6 ≤ nI t then _ else _) = _
        rw [mT, if_pos (nI_le (by omega) (by omega)), bc_0, B_bz0]
        rfl
      | succ m im =>
        intro t n' a h hc ht hn M Mr Aa
        rw [Nat.succ_mul] at hc
        obtain ⟨n', rfl⟩ : ∃ n2, n' = n2 + 1 := ⟨n' - 1, by omega⟩
        have mT := M.1.1.2.1
        have hs : r_small r := r_in_small hv.r_in h10
        have hstep : mo_goRow_16 (mo_goRowG (g + 1)) (n' + 1) (nI many) x2 (nI t) h = if B_01 (Z_ok Z T ab r t) = 0 then mo_goRow_16 (mo_goRowG (g + 1)) n' (nI many) x2 (nI (t + 1)) h else mo_goRow_63 (mo_goRowG (g + 1)) (mo_goRow_16 (mo_goRowG (g + 1)) n') (nI many) x2 (nI t) (px_w (px_w h 65 r.length (nI t)) 51 30 (nI (r.length + 1))) := by
          show (if h 51 6 ≤ nI t then _ else _) = _
          rw [mT, if_neg (nI_ge (by omega) (by omega)), M.2.2.1, mo_canLine_s (nI t) rfl rfl hs Mr M.1.1 M.2.1 W, B_bind, S_can_ok (by omega)]
          unfold mo_goRow_88
          rw [bc_1, nI_add]
          by_cases c : B_01 (Z_ok Z T ab r t) = 0
          · rw [if_pos c, if_pos c]
          · rw [if_neg c, if_neg c, Mr.1, po_65 (by omega), B_ift, nI_clamp (by omega)]
            dsimp only
            rw [B_w_cell _ _ _ (show (51 : Nat) ≠ 65 by decide), Mr.1, nI_add]
        rw [hstep]
        unfold E_f
        cases hk : Z_ok Z T ab r t with
        | false =>
          rw [if_pos (show B_01 false = 0 from rfl), if_neg (by decide)]
          exact im (t + 1) n' a h (by omega) (by omega) (by omega) M Mr Aa
        | true =>
          rw [if_neg (show ¬ B_01 true = 0 by decide), if_pos rfl]
          have F1 : B_fr E_q h (px_w (px_w h 65 r.length (nI t)) 51 30 (nI (r.length + 1))) := ((B_fr.refl _ _).w rfl).w rfl
          have A1 : A a (px_w (px_w h 65 r.length (nI t)) 51 30 (nI (r.length + 1))) := HA a h _ Aa (fun c k h1 h2 => by
            unfold px_w
            rw [if_neg h2, if_neg (fun q => h1 q.1)])
          obtain ⟨h2, y1, y2, y3, y4⟩ := ih g (r ++ [t]) a _ (by omega) (by rw [List.length_append, List.length_singleton]; omega) (by omega) (hv.app (by omega) hk) (M.fr F1) (Mr.snoc (by omega)) A1
          have e250 : mo_goRowG (g + 1) 250 [.inr (.inl 51), .inl (nI many), .inl x2] (px_w (px_w h 65 r.length (nI t)) 51 30 (nI (r.length + 1))) = mo_goRow (mo_goRowG g) (nI many) x2 (px_w (px_w h 65 r.length (nI t)) 51 30 (nI (r.length + 1))) := rfl
          unfold mo_goRow_63
          rw [e250, y1, B_bind]
          cases he : E_t (Z_ok Z T ab) st bd n (r ++ [t]) a with
          | mk o a' =>
            rw [he] at y2 y4
            have hca := hct (r ++ [t]) a
            rw [he] at hca
            change cn a' ≤ _ at hca
            cases o with
            | some x =>
              refine ⟨h2, ?_, y2, F1.trans y3, y4⟩
              rw [if_neg (show ¬ B_01 (some x).isSome = 0 from (by decide : ¬ B_01 true = 0)), bc_1, B_bz1]
              rfl
            | none =>
              have y4' : M_row h2 (r ++ [t]) := y4
              have e1 : h2 51 30 - px_c 1 = nI r.length := by
                rw [y4'.1, bc_1, List.length_append, List.length_singleton, pk_sub (by omega)]
                rfl
              rw [if_pos (show B_01 (none : Option (List Nat)).isSome = 0 from rfl)]
              unfold mo_goRow_88
              dsimp only
              rw [e1, bc_1, nI_add]
              have F2 : B_fr E_q h2 (px_w h2 51 30 (nI r.length)) := (B_fr.refl _ _).w rfl
              have A2 : A a' (px_w h2 51 30 (nI r.length)) := HA a' h2 _ y2 (fun c k h1 h2 => by
                unfold px_w
                rw [if_neg h2])
              obtain ⟨h', z1, z2, z3, z4⟩ := im (t + 1) n' a' _ (by omega) (by omega) (by omega) ((M.fr (F1.trans y3)).fr F2) y4'.unsnoc A2
              exact ⟨h', z1, z2, ((F1.trans y3).trans F2).trans z3, z4⟩
    obtain ⟨h', x1, x2', x3, x4⟩ := H T 0 px_F a h (by have := Nat.mul_le_mul_right (10 ^ n) h10; omega) (by omega) (px_F_lt (by omega)) M Mr Aa
    have eT : E_t (Z_ok Z T ab) st bd (n + 1) r a = E_f (fun t a => if Z_ok Z T ab r t = true then E_t (Z_ok Z T ab) st bd n (r ++ [t]) a else (none, a)) 0 T a := by
      have := E_f_add (g := fun t a => if Z_ok Z T ab r t = true then E_t (Z_ok Z T ab) st bd n (r ++ [t]) a else (none, a)) T (10 - T) 0 a (fun i h1 h2 a => by
        have : ¬ Z_ok Z T ab r i = true := fun q => by
          have := Z_us_lt (Z_ok_iff.mp q).1
          omega
        rw [if_neg this])
      rw [show T + (10 - T) = 10 by omega] at this
      exact this
    rw [eT]
    refine ⟨h', ?_, x2', x3, x4⟩
    unfold mo_goRow
    rw [if_neg (fun w => by rw [Mr.1, bn_eq (by omega) (by omega)] at w; omega), bc_0]
    rw [nI_0] at x1
    exact x1
theorem mo_goRows_s {α : Type} (A : α → pH → Prop) (bd : List Nat → α → α) (st : List Nat → Bool) (cn : α → Nat) (hcn : ∀ r a, cn (bd r a) ≤ cn a + 1) (x2 : Int32) (many : Nat) (hmany : many ≤ 4) (W : R_w P T K Y Z) (HA : ∀ a h h', A a h → (∀ c k, ¬ c = 65 → ¬ (c = 51 ∧ k = 30) → h' c k = h c k) → A a h') (HE : ∀ r a h, cn a < 20000 → r.length = many → Z_v Z T ab r → Ms h P T K Y Z ev ab p b → M_row h r → A a h → ∃ h', mo_endRow x2 h = some (B_01 (st r), h') ∧ A (bd r a) h' ∧ B_fr E_q h h' ∧ M_row h' r) (a : α) (hc : cn a + 10 ^ many ≤ 20000) (M : Ms h P T K Y Z ev ab p b) (Aa : A a h) : ∃ h', mo_goRows (nI many) x2 h = some (B_01 (E_t (Z_ok Z T ab) st bd many [] a).1.isSome, h') ∧ A (E_t (Z_ok Z T ab) st bd many [] a).2 h' ∧ B_fr E_q h h' ∧ M_row h' ((E_t (Z_ok Z T ab) st bd many [] a).1.getD []) := by
  have F1 : B_fr E_q h (px_w h 51 30 0) := (B_fr.refl _ _).w rfl
  have A1 : A a (px_w h 51 30 0) := HA a h _ Aa (fun c k h1 h2 => by
    unfold px_w
    rw [if_neg h2])
  have M1 : M_row (px_w h 51 30 0) [] := ⟨by rw [B_w_same]; exact nI_0.symm, by show 0 ≤ 6; omega, fun k hk => by simp at hk⟩
  obtain ⟨h', x1, x2', x3, x4⟩ := mo_goRow_s A bd st cn hcn x2 many hmany W HA HE many 9 [] a _ hc (by show 0 + many = many; omega) (by omega) Z_v.nil (M.fr F1) M1 A1
  refine ⟨h', ?_, x2', F1.trans x3, x4⟩
  have e250 : mo_goRowT (nI many) x2 (px_w h 51 30 0) = mo_goRow (mo_goRowG 9) (nI many) x2 (px_w h 51 30 0) := by
    unfold mo_goRowT
    rw [px_n10_eq]
    rfl
  unfold mo_goRows
  rw [bc_0]
  dsimp only
  rw [e250, x1, B_bind, B_01_bz]
/-- a row's end, as far as all kinds of search go -/
theorem mo_endRow_go (hp : p < 2 + K) (hb : b < 2) (W : R_w P T K Y Z) (hv : Z_v Z T ab r) (M : Ms h P T K Y Z ev ab p b) (Mr : M_row h r) (x1 : Int32) : (¬ S_dist Z Y p b ≤ S_wds Z r → mo_endRow x1 h = some (0, h)) ∧ (S_dist Z Y p b ≤ S_wds Z r → ∃ h8, mo_endRow x1 h = (if x1 = 0 then px_bz (B_01 (decide ((S_go ev Z (S_dist Z Y p b) ab r).2.1 = none))) h8 else if B_01 (decide ((S_go ev Z (S_dist Z Y p b) ab r).2.1 = none)) = 0 then mo_endRow_91 x1 (B_01 (decide ((S_go ev Z (S_dist Z Y p b) ab r).2.1 = none))) (px_w h8 51 46 ((h8 51 46) + (px_c 1))) else mo_endRow_91 x1 (B_01 (decide ((S_go ev Z (S_dist Z Y p b) ab r).2.1 = none))) (px_w h8 51 45 ((h8 51 45) + (px_c 1)))) ∧ R_a h8 68 P T (S_fin Z Y K ab p b (S_go ev Z (S_dist Z Y p b) ab r)) ∧ h8 51 32 = S_enc (S_go ev Z (S_dist Z Y p b) ab r).2.1 ∧ B_fr (E_g 68) h h8) := by
  have h6 := W.1
  have h10 := W.2.1
  obtain ⟨MH, A, e41, e42, e43⟩ := M
  have l1 := S_yd_le W hp
  have l2 := S_yd_le W (show b < 2 + K by omega)
  have hD : S_dist Z Y p b ≤ 60 := by unfold S_dist; omega
  have hw := Z_wds_le W r hv.lt
  have hv4 := hv.1
  have s1 : B_sl 68 := Or.inr (Or.inl rfl)
  have s2 : B_sl 70 := Or.inr (Or.inr (Or.inl rfl))
  have hz : mo_endRow x1 h = if S_dist Z Y p b ≤ S_wds Z r then (px_bind (mo_lay 70 68 (px_c 0) h) fun _ h6 => px_bind (mo_goes 68 (h6 51 41) (h6 51 42) (h6 51 43) h6) fun z7 h8 => if x1 = 0 then px_bz z7 h8 else if z7 = 0 then mo_endRow_91 x1 z7 (px_w h8 51 46 ((h8 51 46) + (px_c 1))) else mo_endRow_91 x1 z7 (px_w h8 51 45 ((h8 51 45) + (px_c 1)))) else some (0, h) := by
    unfold mo_endRow
    rw [mo_wordsIn_s rfl rfl hv.r_in Mr A W, B_bind, e42, e43, mo_distance_s hp (show b < 2 + K by omega) MH.1 W, B_bind]
    by_cases c : S_dist Z Y p b ≤ S_wds Z r
    · rw [if_pos c, if_pos (nI_le c (by omega))]
    · rw [if_neg c, if_neg (nI_ge (by omega) (by omega)), bc_0, B_bz0]
  rw [hz]
  constructor
  · intro c
    rw [if_neg c]
  · intro c
    rw [if_pos c, mo_lay_t s2 s1 (by decide), B_bind]
    have F1 : B_fr (E_g 68) h (B_cp h (h 70) 68 0) := B_cp_fr (fun _ => rfl)
    rw [F1 51 41 rfl, F1 51 42 rfl, F1 51 43 rfl, e41, e42, e43]
    obtain ⟨h8, g1, g2, g3, g4, g5⟩ := mo_goes_s (ab := ab) (ev := ev) (r := r) s1 hp hb W hv.r_in hv.2.1 (Z := Z) rfl c (MH.fr s1 F1) (B_cp_A A h6 h10 68) (Mr.fr s1 F1)
    have e01 : (if (S_go ev Z (S_dist Z Y p b) ab r).2.1 = none then nI 1 else 0) = B_01 (decide ((S_go ev Z (S_dist Z Y p b) ab r).2.1 = none)) := by
      rw [B_if01]
    rw [e01] at g1
    rw [g1, B_bind]
    exact ⟨h8, rfl, g2, g4, F1.trans g5⟩
/-- the first search: a row that comes over ends it -/
theorem mo_endRow_first (hp : p < 2 + K) (hb : b < 2) (W : R_w P T K Y Z) (hv : Z_v Z T ab r) (M : Ms h P T K Y Z ev ab p b) (Mr : M_row h r) : ∃ h', mo_endRow 0 h = some (B_01 (Z_ov ev Z (S_dist Z Y p b) ab r), h') ∧ B_fr E_q h h' ∧ M_row h' r := by
  obtain ⟨g1, g2⟩ := mo_endRow_go (ev := ev) hp hb W hv M Mr 0
  unfold Z_ov
  by_cases c : S_dist Z Y p b ≤ S_wds Z r
  · obtain ⟨h8, x1, x2, x3, x4⟩ := g2 c
    rw [x1, if_pos rfl, B_01_bz, decide_eq_true c, Bool.true_and]
    exact ⟨h8, rfl, x4.mono E_g_q, Mr.fr (Or.inr (Or.inl rfl)) x4⟩
  · rw [g1 c, decide_eq_false c, Bool.false_and]
    exact ⟨h, rfl, B_fr.refl _ _, Mr⟩
end MROWS
