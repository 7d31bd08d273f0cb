/-! Layer B: loops that gather bits -/
def B_or (f : Nat → Int32) : Nat → Nat → Int32 → Int32
  | _, 0, a => a
  | k, m + 1, a => B_or f (k + 1) m (a ||| f k)
theorem B_or_eq {f g : Nat → Int32} {k m : Nat} {a : Int32} (h : ∀ j, k ≤ j → j < k + m → f j = g j) : B_or f k m a = B_or g k m a := by
  induction m generalizing k a with
  | zero => rfl
  | succ m ih =>
    show B_or f (k + 1) m (a ||| f k) = B_or g (k + 1) m (a ||| g k)
    rw [h k (Nat.le_refl _) (by omega)]
    exact ih (fun j h1 h2 => h j (by omega) (by omega))
theorem px_F_lt {n : Nat} (h : n < 2097152) : n < px_F := by rw [px_F_eq]; exact h
theorem px_F_pos {n : Nat} (h : n < px_F) : ∃ m, px_F = m + 1 := ⟨px_F - 1, by omega⟩
theorem B_at_n {h : pH} {a k : Nat} (ht : px_tag a = 0) (hk : k < px_len a) (hn : px_len a < 2 ^ 31) : B_at h a (nI k) = h a k := by
  unfold B_at
  have h1 : (nI k).toNatClampNeg = k := nI_clamp (by omega)
  rw [if_pos (px_ok_n ht (nI_pos (by omega)) (by rw [h1]; exact hk)), h1]
theorem px_ok_nI {t a k : Nat} (ht : px_tag a = t) (hk : k < px_len a) (hn : px_len a < 2 ^ 31) : px_ok t a (nI k) = true := px_ok_n ht (nI_pos (by omega)) (by rw [nI_clamp (by omega)]; exact hk)
def B_pl (f : Nat → Int32) (w : Int32) : Nat → Int32 := fun p => if f p = w then 1 <<< (nI p &&& 31) else 0
theorem hs_peopleAt_loop {h : pH} {w : Int32} {P : Nat} (hP : h 3 10 = nI P) (h6 : P ≤ 6) : ∀ (m k n : Nat) (a : Int32), k + m = P → m < n → hs_peopleAt_4 n w a (nI k) h = some (B_or (B_pl (h 5) w) k m a, h) := by
  intro m
  induction m with
  | zero =>
    intro k n a hk hn
    obtain ⟨n, rfl⟩ : ∃ n', n = n' + 1 := ⟨n - 1, by omega⟩
    unfold hs_peopleAt_4
    rw [hP, if_pos (nI_le (by omega) (by omega))]
    rfl
  | succ m ih =>
    intro k n a hk hn
    obtain ⟨n, rfl⟩ : ∃ n', n = n' + 1 := ⟨n - 1, by omega⟩
    have h1 : px_len 5 = 6 := rfl
    unfold hs_peopleAt_4
    rw [hP, if_neg (nI_ge (by omega) (by omega)), px_bind_eq (wu_at_eq rfl (by rw [h1]; omega)), B_at_n rfl (by rw [h1]; omega) (by rw [h1]; omega)]
    show (if h 5 k = w then hs_peopleAt_32 _ _ _ _ _ _ else hs_peopleAt_32 _ _ _ _ _ _) = some (B_or _ (k + 1) m (a ||| B_pl (h 5) w k), h)
    unfold B_pl
    by_cases hc : h 5 k = w
    · rw [if_pos hc, if_pos hc]
      unfold hs_peopleAt_32
      rw [pc_1, nI_1]
      exact ih (k + 1) n _ (by omega) (by omega)
    · rw [if_neg hc, if_neg hc]
      unfold hs_peopleAt_32
      rw [pc_0, pc_1, nI_1]
      exact ih (k + 1) n _ (by omega) (by omega)
theorem hs_peopleAt_eq {h : pH} {w : Int32} {P : Nat} (hP : h 3 10 = nI P) (h6 : P ≤ 6) : hs_peopleAt w h = some (B_or (B_pl (h 5) w) 0 P 0, h) := by
  unfold hs_peopleAt
  rw [pc_0]
  exact hs_peopleAt_loop hP h6 P 0 px_F 0 (by omega) (px_F_lt (by omega))
theorem mo_peopleAt_loop {h : pH} {w : Int32} {P : Nat} (hP : h 51 4 = nI P) (h6 : P ≤ 6) : ∀ (m k n : Nat) (a : Int32), k + m = P → m < n → mo_peopleAt_4 n w a (nI k) h = some (B_or (B_pl (h 52) w) k m a, h) := by
  intro m
  induction m with
  | zero =>
    intro k n a hk hn
    obtain ⟨n, rfl⟩ : ∃ n', n = n' + 1 := ⟨n - 1, by omega⟩
    unfold mo_peopleAt_4
    rw [hP, if_pos (nI_le (by omega) (by omega))]
    rfl
  | succ m ih =>
    intro k n a hk hn
    obtain ⟨n, rfl⟩ : ∃ n', n = n' + 1 := ⟨n - 1, by omega⟩
    have h1 : px_len 52 = 52 := rfl
    unfold mo_peopleAt_4
    rw [hP, if_neg (nI_ge (by omega) (by omega)), px_if_t (px_ok_nI (t := 0) (a := 52) (k := k) rfl (by rw [h1]; omega) (by rw [h1]; omega)), nI_clamp (by omega)]
    show (if h 52 k = w then mo_peopleAt_30 _ _ _ _ _ _ else mo_peopleAt_30 _ _ _ _ _ _) = some (B_or _ (k + 1) m (a ||| B_pl (h 52) w k), h)
    unfold B_pl
    by_cases hc : h 52 k = w
    · rw [if_pos hc, if_pos hc]
      unfold mo_peopleAt_30
      rw [pc_1, nI_1]
      exact ih (k + 1) n _ (by omega) (by omega)
    · rw [if_neg hc, if_neg hc]
      unfold mo_peopleAt_30
      rw [pc_0, pc_1, nI_1]
      exact ih (k + 1) n _ (by omega) (by omega)
theorem mo_peopleAt_eq {h : pH} {w : Int32} {P : Nat} (hP : h 51 4 = nI P) (h6 : P ≤ 6) : mo_peopleAt w h = some (B_or (B_pl (h 52) w) 0 P 0, h) := by
  unfold mo_peopleAt
  rw [pc_0]
  exact mo_peopleAt_loop hP h6 P 0 px_F 0 (by omega) (px_F_lt (by omega))
