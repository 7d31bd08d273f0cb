/-! Layer B: what is written on both sides is written in the state -/
section WR
variable {h : pH} {P T K Y a : Nat} {S : pH}
theorem px_w_nq {S : pH} {i k j l : Nat} {v : Int32} (h : ¬ (j = i ∧ l = k)) : px_w S i k v j l = S j l := by
  unfold px_w
  rw [if_neg h]
theorem px_w_eqq {S : pH} {i k : Nat} {v : Int32} : px_w S i k v i k = v := B_w_same _ _ _ _
/-- the class's rows: place, coins, left, whose, said, knows, hold, press -/
theorem R_c.w5 (R : R_c h P T K Y S) (p : Nat) (v : Int32) : R_c (px_w h 5 p v) P T K Y (px_w S 1 p v) := by
  obtain ⟨hP, hT, hK, hY, c0, c1, c2, c3, c4, c5, c6, c7, c8, c9, c10⟩ := R
  refine ⟨hP, hT, hK, hY, c0, fun k hk => ?_, c2, c3, c4, c5, c6, c7, c8, c9, c10⟩
  rw [B_w_at, B_w_at]
  split
  · rfl
  · exact c1 k hk
theorem R_c.w6 (R : R_c h P T K Y S) (p : Nat) (v : Int32) : R_c (px_w h 6 p v) P T K Y (px_w S 2 p v) := by
  obtain ⟨hP, hT, hK, hY, c0, c1, c2, c3, c4, c5, c6, c7, c8, c9, c10⟩ := R
  refine ⟨hP, hT, hK, hY, c0, c1, fun k hk => ?_, c3, c4, c5, c6, c7, c8, c9, c10⟩
  rw [B_w_at, B_w_at]
  split
  · rfl
  · exact c2 k hk
theorem R_c.w8 (R : R_c h P T K Y S) (p : Nat) (v : Int32) : R_c (px_w h 8 p v) P T K Y (px_w S 4 p v) := by
  obtain ⟨hP, hT, hK, hY, c0, c1, c2, c3, c4, c5, c6, c7, c8, c9, c10⟩ := R
  refine ⟨hP, hT, hK, hY, c0, c1, c2, c3, fun k hk => ?_, c5, c6, c7, c8, c9, c10⟩
  rw [B_w_at, B_w_at]
  split
  · rfl
  · exact c4 k hk
theorem R_c.w10 (R : R_c h P T K Y S) (p : Nat) (v : Int32) : R_c (px_w h 10 p v) P T K Y (px_w S 6 p v) := by
  obtain ⟨hP, hT, hK, hY, c0, c1, c2, c3, c4, c5, c6, c7, c8, c9, c10⟩ := R
  refine ⟨hP, hT, hK, hY, c0, c1, c2, c3, c4, c5, fun k hk => ?_, c7, c8, c9, c10⟩
  rw [B_w_at, B_w_at]
  split
  · rfl
  · exact c6 k hk
theorem R_c.w12 (R : R_c h P T K Y S) (p : Nat) (v : Int32) : R_c (px_w h 12 p v) P T K Y (px_w S 8 p v) := by
  obtain ⟨hP, hT, hK, hY, c0, c1, c2, c3, c4, c5, c6, c7, c8, c9, c10⟩ := R
  refine ⟨hP, hT, hK, hY, c0, c1, c2, c3, c4, c5, c6, c7, fun k hk => ?_, c9, c10⟩
  rw [B_w_at, B_w_at]
  split
  · rfl
  · exact c8 k hk
theorem R_c.w13 (R : R_c h P T K Y S) (p : Nat) (v : Int32) : R_c (px_w h 13 p v) P T K Y (px_w S 9 p v) := by
  obtain ⟨hP, hT, hK, hY, c0, c1, c2, c3, c4, c5, c6, c7, c8, c9, c10⟩ := R
  refine ⟨hP, hT, hK, hY, c0, c1, c2, c3, c4, c5, c6, c7, c8, fun k hk => ?_, c10⟩
  rw [B_w_at, B_w_at]
  split
  · rfl
  · exact c9 k hk
theorem R_c.w4 (R : R_c h P T K Y S) (p : Nat) (v : Int32) : R_c (px_w h 4 p v) P T K Y (px_w S 0 p v) := by
  obtain ⟨hP, hT, hK, hY, c0, c1, c2, c3, c4, c5, c6, c7, c8, c9, c10⟩ := R
  refine ⟨hP, hT, hK, hY, fun k hk => ?_, c1, c2, c3, c4, c5, c6, c7, c8, c9, c10⟩
  rw [B_w_at, B_w_at]
  split
  · rfl
  · exact c0 k hk
theorem R_c.w9 (R : R_c h P T K Y S) (p : Nat) (v : Int32) : R_c (px_w h 9 p v) P T K Y (px_w S 5 p v) := by
  obtain ⟨hP, hT, hK, hY, c0, c1, c2, c3, c4, c5, c6, c7, c8, c9, c10⟩ := R
  refine ⟨hP, hT, hK, hY, c0, c1, c2, c3, c4, fun k hk => ?_, c6, c7, c8, c9, c10⟩
  rw [B_w_at, B_w_at]
  split
  · rfl
  · exact c5 k hk
/-- the reference's row a -/
theorem R_a.w1 (A : R_a h a P T S) (h6 : P ≤ 6) {p : Nat} (hp : p < 6) (v : Int32) : R_a (px_w h a p v) a P T (px_w S 1 p v) := by
  obtain ⟨a1, a2, a4, a8, a6, a9⟩ := A
  refine ⟨fun k hk => ?_, fun k hk => ?_, fun k hk => ?_, fun k hk => ?_, fun k hk => ?_, fun k hk => ?_⟩
  · rw [B_w_at, B_w_at, a1 k hk]
  · rw [B_w_at, if_neg (by omega), a2 k hk]; rfl
  · rw [B_w_at, if_neg (by omega), a4 k hk]; rfl
  · rw [B_w_at, if_neg (by omega), a8 k hk]; rfl
  · rw [B_w_at, if_neg (by omega), a6 k hk]; rfl
  · rw [B_w_at, if_neg (by omega), a9 k hk]; rfl
theorem R_a.w2 (A : R_a h a P T S) (h6 : P ≤ 6) {p : Nat} (hp : p < 6) (v : Int32) : R_a (px_w h a (6 + p) v) a P T (px_w S 2 p v) := by
  obtain ⟨a1, a2, a4, a8, a6, a9⟩ := A
  refine ⟨fun k hk => ?_, fun k hk => ?_, fun k hk => ?_, fun k hk => ?_, fun k hk => ?_, fun k hk => ?_⟩
  · rw [B_w_at, if_neg (by omega), a1 k hk]; rfl
  · rw [B_w_at, B_w_at, a2 k hk]
    by_cases q : k = p
    · rw [if_pos q, if_pos (by omega)]
    · rw [if_neg q, if_neg (by omega)]
  · rw [B_w_at, if_neg (by omega), a4 k hk]; rfl
  · rw [B_w_at, if_neg (by omega), a8 k hk]; rfl
  · rw [B_w_at, if_neg (by omega), a6 k hk]; rfl
  · rw [B_w_at, if_neg (by omega), a9 k hk]; rfl
theorem R_a.w4 (A : R_a h a P T S) (h6 : P ≤ 6) (h10 : T ≤ 10) {p : Nat} (hp : p < 10) (v : Int32) : R_a (px_w h a (12 + p) v) a P T (px_w S 4 p v) := by
  obtain ⟨a1, a2, a4, a8, a6, a9⟩ := A
  refine ⟨fun k hk => ?_, fun k hk => ?_, fun k hk => ?_, fun k hk => ?_, fun k hk => ?_, fun k hk => ?_⟩
  · rw [B_w_at, if_neg (by omega), a1 k hk]; rfl
  · rw [B_w_at, if_neg (by omega), a2 k hk]; rfl
  · rw [B_w_at, B_w_at, a4 k hk]
    by_cases q : k = p
    · rw [if_pos q, if_pos (by omega)]
    · rw [if_neg q, if_neg (by omega)]
  · rw [B_w_at, if_neg (by omega), a8 k hk]; rfl
  · rw [B_w_at, if_neg (by omega), a6 k hk]; rfl
  · rw [B_w_at, if_neg (by omega), a9 k hk]; rfl
theorem R_a.w8 (A : R_a h a P T S) (h6 : P ≤ 6) (h10 : T ≤ 10) {p : Nat} (hp : p < 10) (v : Int32) : R_a (px_w h a (22 + p) v) a P T (px_w S 8 p v) := by
  obtain ⟨a1, a2, a4, a8, a6, a9⟩ := A
  refine ⟨fun k hk => ?_, fun k hk => ?_, fun k hk => ?_, fun k hk => ?_, fun k hk => ?_, fun k hk => ?_⟩
  · rw [B_w_at, if_neg (by omega), a1 k hk]; rfl
  · rw [B_w_at, if_neg (by omega), a2 k hk]; rfl
  · rw [B_w_at, if_neg (by omega), a4 k hk]; rfl
  · rw [B_w_at, B_w_at, a8 k hk]
    by_cases q : k = p
    · rw [if_pos q, if_pos (by omega)]
    · rw [if_neg q, if_neg (by omega)]
  · rw [B_w_at, if_neg (by omega), a6 k hk]; rfl
  · rw [B_w_at, if_neg (by omega), a9 k hk]; rfl
theorem R_a.w6 (A : R_a h a P T S) (h6 : P ≤ 6) (h10 : T ≤ 10) {p : Nat} (hp : p < 10) (v : Int32) : R_a (px_w h a (32 + p) v) a P T (px_w S 6 p v) := by
  obtain ⟨a1, a2, a4, a8, a6, a9⟩ := A
  refine ⟨fun k hk => ?_, fun k hk => ?_, fun k hk => ?_, fun k hk => ?_, fun k hk => ?_, fun k hk => ?_⟩
  · rw [B_w_at, if_neg (by omega), a1 k hk]; rfl
  · rw [B_w_at, if_neg (by omega), a2 k hk]; rfl
  · rw [B_w_at, if_neg (by omega), a4 k hk]; rfl
  · rw [B_w_at, if_neg (by omega), a8 k hk]; rfl
  · rw [B_w_at, B_w_at, a6 k hk]
    by_cases q : k = p
    · rw [if_pos q, if_pos (by omega)]
    · rw [if_neg q, if_neg (by omega)]
  · rw [B_w_at, if_neg (by omega), a9 k hk]; rfl
theorem R_a.w9 (A : R_a h a P T S) (h6 : P ≤ 6) (h10 : T ≤ 10) {p : Nat} (hp : p < 10) (v : Int32) : R_a (px_w h a (42 + p) v) a P T (px_w S 9 p v) := by
  obtain ⟨a1, a2, a4, a8, a6, a9⟩ := A
  refine ⟨fun k hk => ?_, fun k hk => ?_, fun k hk => ?_, fun k hk => ?_, fun k hk => ?_, fun k hk => ?_⟩
  · rw [B_w_at, if_neg (by omega), a1 k hk]; rfl
  · rw [B_w_at, if_neg (by omega), a2 k hk]; rfl
  · rw [B_w_at, if_neg (by omega), a4 k hk]; rfl
  · rw [B_w_at, if_neg (by omega), a8 k hk]; rfl
  · rw [B_w_at, if_neg (by omega), a6 k hk]; rfl
  · rw [B_w_at, B_w_at, a9 k hk]
    by_cases q : k = p
    · rw [if_pos q, if_pos (by omega)]
    · rw [if_neg q, if_neg (by omega)]
theorem R_a.cell (A : R_a h a P T S) {h' : pH} (e : h' a = h a) : R_a h' a P T S := by
  unfold R_a at *
  rw [e]
  exact A
theorem R_k.cell {b k : Nat} {v : Int32} (R : R_k h P T K Y S) (hb : b ≠ 51) (h3 : b ≠ 53) (h4 : b ≠ 54) (h5 : b ≠ 55) (h6 : b ≠ 56) (h7 : b ≠ 57) : R_k (px_w h b k v) P T K Y S := by
  unfold R_k at *
  rw [B_w_cell _ _ _ (Ne.symm hb), B_w_cell _ _ _ (Ne.symm h3), B_w_cell _ _ _ (Ne.symm h4), B_w_cell _ _ _ (Ne.symm h5), B_w_cell _ _ _ (Ne.symm h6), B_w_cell _ _ _ (Ne.symm h7)]
  exact R
/-- only what lasts is seen -/
theorem R_k.st {Z : pH} (R : R_k h P T K Y S) (e : ∀ i k, i ≠ 1 → i ≠ 2 → i ≠ 4 → i ≠ 6 → i ≠ 8 → i ≠ 9 → Z i k = S i k) : R_k h P T K Y Z := by
  obtain ⟨mP, mT, mK, mY, m0, m3, m5, m7, m10⟩ := R
  exact ⟨mP, mT, mK, mY, fun p hp => by rw [m0 p hp, e 0 p (by decide) (by decide) (by decide) (by decide) (by decide) (by decide)], fun p hp => by rw [m3 p hp, e 3 p (by decide) (by decide) (by decide) (by decide) (by decide) (by decide)], fun p hp => by rw [m5 p hp, e 5 p (by decide) (by decide) (by decide) (by decide) (by decide) (by decide)], fun p hp => by rw [m7 p hp, e 7 p (by decide) (by decide) (by decide) (by decide) (by decide) (by decide)], fun p hp => by rw [m10 p hp, e 10 p (by decide) (by decide) (by decide) (by decide) (by decide) (by decide)]⟩
/-- all aboard are at a place -/
def S_mv (S : pH) (ab x : Int32) : pH := fun i k => if i = 1 ∧ B_bit ab k = true then x else S i k
/-- a thing is said before those aboard -/
def S_tl (S : pH) (t : Nat) (ab : Int32) : pH := px_w (px_w S 8 t (nI 1)) 9 t (S 9 t ||| ab)
def E_a (a : Nat) : Nat → Nat → Bool := fun b _ => Nat.beq b a
theorem hs_move_s (ab x : Int32) (R : R_c h P T K Y S) (W : R_w P T K Y S) : ∃ h', hs_move ab x h = some (0, h') ∧ R_c h' P T K Y (S_mv S ab x) ∧ B_fr (E_a 5) h h' := by
  have h6 := W.1
  let g : Nat → pH → pH := fun k h => if B_bit ab k = true then px_w h 5 k x else h
  refine ⟨B_fold g 0 P h, ?_, ?_, ?_⟩
  · unfold hs_move
    rw [bc_0, ← nI_0]
    refine B_loopI (fun n h k => hs_move_2 n ab x (nI k) h) P g (fun h => some (nI 0, h)) (fun _ h => h 3 10 = nI P) (fun n h k hk hh => ?_) (fun n h hh => ?_) P 0 px_F h (by omega) (px_F_lt (by omega)) R.1
    · constructor
      · simp (disch := omega) only [hs_move_2, hs_move_27, hh, wu_has_eq, bn_le, bn_lt, bn_eq, bn_le0, bn_0le, bn_lt0, bn_0lt, bn_eq0, bn_0eq, bn_eqm, bn_mlt0, bn_0lem, bn_m0, bn_mle0, bn_ltm, bn_mlt, bn_mle, bn_lem, nI_add, pk_mul, pk_sub, nI_clamp, B_n_nI, bn_0, bc_0, bc_m1, bc_1, bc_2, bc_3, bc_4, bc_5, bc_6, bc_7, bc_8, bc_9, bc_10, bc_11, bc_12, bc_13, bc_16, bc_22, bc_24, bc_32, bc_40, bc_41, bc_42, bc_43, bc_44, bc_45, bc_47, bc_48, bc_52, bc_57, bc_58, bc_59, bc_60, bc_61, bc_62, bc_63, bc_64, bc_76, bc_80, bc_97, bc_99, bc_105, bc_106, bc_107, bc_108, bc_109, bc_110, bc_111, bc_112, bc_113, bc_114, bc_115, bc_116, bc_117, bc_118, bc_119, bc_120, bc_121, bc_122, bc_255, bc_256, bc_400, bc_572, bc_999, bc_1024, bc_10000, bc_m2, bc_m3, bc_m8, bc_m100, bc_m200, B_bind, B_bind_if, B_ift, B_bz0, B_bz1, B_01_bz, B_01_e0, B_01_e1, if_pos, if_neg, reduceIte, Bool.false_eq_true, Bool.true_eq_false, wp_4, wq_4, wp_5, wq_5, wp_6, wq_6, wp_7, wq_7, wp_8, wq_8, wp_9, wq_9, wp_10, wq_10, wp_11, wq_11, wp_12, wq_12, wp_13, wq_13, wp_15, wq_15, wp_16, wq_16, wp_18, wq_18, wp_19, wq_19, wp_20, wq_20, wp_23, wq_23, wp_24, wq_24, wp_26, wq_26, wp_27, wq_27, wp_28, wq_28, wp_29, wq_29, wp_30, wq_30, wp_31, wq_31, wp_32, wq_32, wp_34, wq_34, wp_35, wq_35, wp_36, wq_36, wp_37, wq_37, wp_38, wq_38, wp_39, wq_39, wp_40, wq_40, wp_42, wq_42, wp_44, wq_44, wp_46, wq_46, wp_48, wq_48, wp_49, wq_49, wp_50, wq_50, g]
        by_cases q : B_bit ab k = true
        · simp [q, nI]
        · simp [q]
      · dsimp only [g]
        split
        · rw [B_w_cell _ _ _ (by decide)]
          exact hh
        · exact hh
    · simp (disch := omega) only [hs_move_2, hh, bn_le, bn_lt, bn_eq, bn_le0, bn_0le, bn_lt0, bn_0lt, bn_eq0, bn_0eq, bn_eqm, bn_mlt0, bn_0lem, bn_m0, bn_mle0, bn_ltm, bn_mlt, bn_mle, bn_lem, nI_add, pk_mul, pk_sub, nI_clamp, B_n_nI, bn_0, bc_0, bc_m1, bc_1, bc_2, bc_3, bc_4, bc_5, bc_6, bc_7, bc_8, bc_9, bc_10, bc_11, bc_12, bc_13, bc_16, bc_22, bc_24, bc_32, bc_40, bc_41, bc_42, bc_43, bc_44, bc_45, bc_47, bc_48, bc_52, bc_57, bc_58, bc_59, bc_60, bc_61, bc_62, bc_63, bc_64, bc_76, bc_80, bc_97, bc_99, bc_105, bc_106, bc_107, bc_108, bc_109, bc_110, bc_111, bc_112, bc_113, bc_114, bc_115, bc_116, bc_117, bc_118, bc_119, bc_120, bc_121, bc_122, bc_255, bc_256, bc_400, bc_572, bc_999, bc_1024, bc_10000, bc_m2, bc_m3, bc_m8, bc_m100, bc_m200, B_bind, B_bind_if, B_ift, B_bz0, B_bz1, B_01_bz, B_01_e0, B_01_e1, if_pos, if_neg, reduceIte, Bool.false_eq_true, Bool.true_eq_false]
  · have hI : ∀ m k (h0 : pH), k + m = P → (∀ j, j < P → h0 5 j = if j < k ∧ B_bit ab j = true then x else S 1 j) → (∀ b, b ≠ 5 → h0 b = h b) → (∀ j, j < P → B_fold g k m h0 5 j = if B_bit ab j = true then x else S 1 j) ∧ (∀ b, b ≠ 5 → B_fold g k m h0 b = h b) := by
      intro m
      induction m with
      | zero =>
        intro k h0 hk e1 e2
        refine ⟨fun j hj => ?_, e2⟩
        show h0 5 j = _
        rw [e1 j hj]
        by_cases q : B_bit ab j = true
        · rw [if_pos ⟨by omega, q⟩, if_pos q]
        · rw [if_neg (fun w => q w.2), if_neg q]
      | succ m ih =>
        intro k h0 hk e1 e2
        refine ih (k + 1) (g k h0) (by omega) (fun j hj => ?_) (fun b hb => ?_)
        · dsimp only [g]
          by_cases q : B_bit ab k = true
          · rw [if_pos q, B_w_at]
            by_cases hjk : j = k
            · subst hjk
              rw [if_pos rfl, if_pos ⟨by omega, q⟩]
            · rw [if_neg hjk, e1 j hj]
              by_cases w : j < k ∧ B_bit ab j = true
              · rw [if_pos w, if_pos ⟨by omega, w.2⟩]
              · rw [if_neg w, if_neg (fun w2 => w ⟨by omega, w2.2⟩)]
          · rw [if_neg q, e1 j hj]
            by_cases w : j < k ∧ B_bit ab j = true
            · rw [if_pos w, if_pos ⟨by omega, w.2⟩]
            · rw [if_neg w]
              rw [if_neg (fun w2 => ?_)]
              by_cases hjk : j = k
              · subst hjk
                exact q w2.2
              · exact w ⟨by omega, w2.2⟩
        · dsimp only [g]
          split
          · rw [B_w_cell _ _ _ hb]
            exact e2 b hb
          · exact e2 b hb
    obtain ⟨hP, hT, hK, hY, c0, c1, c2, c3, c4, c5, c6, c7, c8, c9, c10⟩ := R
    obtain ⟨f1, f2⟩ := hI P 0 h (by omega) (fun j hj => by rw [if_neg (by omega)]; exact c1 j hj) (fun b _ => rfl)
    unfold R_c
    rw [f2 3 (by decide), f2 14 (by decide), f2 4 (by decide), f2 6 (by decide), f2 7 (by decide), f2 8 (by decide), f2 9 (by decide), f2 10 (by decide), f2 11 (by decide), f2 12 (by decide), f2 13 (by decide), f2 15 (by decide)]
    refine ⟨hP, hT, hK, hY, c0, fun p hp => ?_, c2, c3, c4, c5, c6, c7, c8, c9, c10⟩
    rw [f1 p hp]
    unfold S_mv
    by_cases q : B_bit ab p = true
    · rw [if_pos q, if_pos ⟨rfl, q⟩]
    · rw [if_neg q, if_neg (fun w => q w.2)]
  · refine B_fold_inv (g := g) (fun _ h' => B_fr (E_a 5) h h') P 0 h (B_fr.refl _ _) (fun j h' _ _ f => ?_)
    dsimp only [g]
    split
    · exact f.w rfl
    · exact f
end WR
