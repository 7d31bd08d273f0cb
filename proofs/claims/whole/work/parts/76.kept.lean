/-! Layer B: for how many yards a thing is kept back -/
def S_ab (S : pH) (ab : Int32) (t : Nat) : Int32 := if S 7 t = -1 then 0 else if B_bit ab (B_n (S 7 t)) = true then nI 1 else 0
noncomputable def S_P (ev : pE) (S : pH) (ab : Int32) (t : Nat) (k w y : Int32) : Int32 := ev (S 5 t) k w y (B_pc ab) (S 6 t) (S_ab S ab t)
def S_ho (S : pH) (t : Nat) : Int32 := S 0 (B_n (S 6 t))
/-- bursts out at its k-th yard -/
noncomputable def S_bu (ev : pE) (S : pH) (ab : Int32) (t L b k : Nat) : Bool := decide (S_ho S t < S_P ev S ab t (nI k) (nI (L - k)) (nI (b + k)))
/-- the first of k, k + 1 .. k + m - 1 with q, else k + m -/
def B_first (q : Nat → Bool) : Nat → Nat → Nat
  | k, 0 => k
  | k, m + 1 => if q k = true then k else B_first q (k + 1) m
theorem B_first_le (q : Nat → Bool) : ∀ m k, k ≤ B_first q k m ∧ B_first q k m ≤ k + m := by
  intro m
  induction m with
  | zero => intro k; exact ⟨Nat.le_refl _, Nat.le_refl _⟩
  | succ m ih =>
    intro k
    unfold B_first
    split
    · exact ⟨Nat.le_refl _, by omega⟩
    · have := ih (k + 1)
      omega
theorem B_first_eq {p q : Nat → Bool} : ∀ m k, (∀ j, k ≤ j → j < k + m → p j = q j) → B_first p k m = B_first q k m := by
  intro m
  induction m with
  | zero => intro k _; rfl
  | succ m ih =>
    intro k h
    unfold B_first
    rw [h k (Nat.le_refl _) (by omega), ih (k + 1) (fun j h1 h2 => h j (by omega) (by omega))]
def C_h (h : pH) (P T K Y : Nat) (S : pH) (ev : pE) : Prop := R_c h P T K Y S ∧ E_c (h 17 4) (h 18) ev
theorem C_h.fr {h h' : pH} {P T K Y : Nat} {S : pH} {ev : pE} (C : C_h h P T K Y S ev) (x : B_fr B_sc h h') : C_h h' P T K Y S ev := by
  refine ⟨C.1.sm x.sm_c, ?_⟩
  rw [x 17 4 rfl, x.row 18 (fun _ => rfl)]
  exact C.2
/-- what kept() writes -/
def E_k : Nat → Nat → Bool := fun a k => match a with
  | 17 => [8, 9, 10, 11, 12, 13, 14].contains k
  | 20 => true
  | 22 => Nat.beq k 13
  | _ => false
theorem E_fc_k : ∀ a k, E_fc a k = true → E_k a k = true := fun a k e => by
  unfold E_fc at e
  split at e
  · have : k = 9 ∨ k = 10 ∨ k = 11 := by simpa using e
    rcases this with rfl | rfl | rfl <;> rfl
  · rfl
  · cases e
theorem E_k_sc : ∀ a k, E_k a k = true → B_sc a k = true := fun a k e => by
  unfold E_k at e
  split at e
  · have : k = 8 ∨ k = 9 ∨ k = 10 ∨ k = 11 ∨ k = 12 ∨ k = 13 ∨ k = 14 := by simpa using e
    rcases this with rfl | rfl | rfl | rfl | rfl | rfl | rfl <;> rfl
  · rfl
  · have := Nat.eq_of_beq_eq_true e
    subst this
    rfl
  · cases e
section KEPT
variable {h : pH} {P T K Y : Nat} {S : pH} {ev : pE} {ab : Int32}
noncomputable def B_con (h : pH) (S : pH) (ab : Int32) (t : Nat) : pH := px_w (px_w (px_w (px_w h 17 8 (S 5 t)) 17 13 (S 6 t)) 17 12 (B_pc ab)) 17 14 (S_ab S ab t)
theorem B_con_fr (h S : pH) (ab : Int32) (t : Nat) : B_fr E_k h (B_con h S ab t) := ((((B_fr.refl _ h).w rfl).w rfl).w rfl).w rfl
theorem cr_consider_s {t : Nat} (ht : t < T) (hab : h 22 6 = ab) (R : R_c h P T K Y S) (W : R_w P T K Y S) : cr_consider (nI t) h = some (0, B_con h S ab t) := by
  obtain ⟨hP, hT, hK, hY, c0, c1, c2, c3, c4, c5, c6, c7, c8, c9, c10⟩ := R
  obtain ⟨h6, h10, h5, hY2, hY60, w0, w1, w2, w4, w6, w7, w8, w9, w10, w11⟩ := W
  unfold cr_consider B_con S_ab
  simp (disch := omega) only [c5, c6, c7, hab, jn_bitCount_eq, cr_consider_80, bn_le, bn_lt, bn_eq, bn_le0, bn_0le, bn_lt0, bn_0lt, bn_eq0, bn_0eq, bn_eqm, bn_mlt0, bn_0lem, bn_m0, bn_mle0, bn_ltm, bn_mlt, bn_mle, bn_lem, nI_add, pk_mul, pk_sub, nI_clamp, B_n_nI, bn_0, bc_0, bc_m1, bc_1, bc_2, bc_3, bc_4, bc_5, bc_6, bc_7, bc_8, bc_9, bc_10, bc_11, bc_12, bc_13, bc_16, bc_22, bc_24, bc_32, bc_40, bc_41, bc_42, bc_43, bc_44, bc_45, bc_47, bc_48, bc_52, bc_57, bc_58, bc_59, bc_60, bc_61, bc_62, bc_63, bc_64, bc_76, bc_80, bc_97, bc_99, bc_105, bc_106, bc_107, bc_108, bc_109, bc_110, bc_111, bc_112, bc_113, bc_114, bc_115, bc_116, bc_117, bc_118, bc_119, bc_120, bc_121, bc_122, bc_255, bc_256, bc_400, bc_572, bc_999, bc_1024, bc_10000, bc_m2, bc_m3, bc_m8, bc_m100, bc_m200, B_bind, B_bind_if, B_ift, B_bz0, B_bz1, B_01_bz, B_01_e0, B_01_e1, if_pos, if_neg, reduceIte, Bool.false_eq_true, Bool.true_eq_false, wa_4, wz_4, wa_5, wz_5, wa_6, wz_6, wa_7, wz_7, wa_8, wz_8, wa_9, wz_9, wa_10, wz_10, wa_11, wz_11, wa_12, wz_12, wa_13, wz_13, wa_15, wz_15, wa_16, wz_16, wa_18, wz_18, wa_19, wz_19, wa_20, wz_20, wa_23, wz_23, wa_24, wz_24, wa_26, wz_26, wa_27, wz_27, wa_28, wz_28, wa_29, wz_29, wa_30, wz_30, wa_31, wz_31, wa_32, wz_32, wa_34, wz_34, wa_35, wz_35, wa_36, wz_36, wa_37, wz_37, wa_38, wz_38, wa_39, wz_39, wa_40, wz_40, wa_42, wz_42, wa_44, wz_44, wa_46, wz_46, wa_48, wz_48, wa_49, wz_49, wa_50, wz_50, B_w_same, B_w_cell, B_w_at]
  rcases w7 t ht with e | ⟨v, hv, e⟩
  · simp only [e, wu_has_neg _ (show (-1 : Int32) < 0 by decide), B_bind, B_bind_if, B_ift, B_bz0, B_bz1, B_01_bz, B_01_e0, B_01_e1, if_pos, if_neg, reduceIte, Bool.false_eq_true, Bool.true_eq_false]
  · simp (disch := omega) only [e, wu_has_eq, bn_le, bn_lt, bn_eq, bn_le0, bn_0le, bn_lt0, bn_0lt, bn_eq0, bn_0eq, bn_eqm, bn_mlt0, bn_0lem, bn_m0, bn_mle0, bn_ltm, bn_mlt, bn_mle, bn_lem, nI_add, pk_mul, pk_sub, nI_clamp, B_n_nI, bn_0, B_bind, B_bind_if, B_ift, B_bz0, B_bz1, B_01_bz, B_01_e0, B_01_e1, if_pos, if_neg, reduceIte, Bool.false_eq_true, Bool.true_eq_false]
    by_cases q : B_bit ab v = true
    · simp [q]
    · simp [q]
theorem cr_kept_loop {t L b m : Nat} (hL : L ≤ 40) (hb : b ≤ 60) (hm : m ≤ L) (W : R_w P T K Y S) : ∀ (j k n : Nat) (h : pH), k + j = m → j < n → C_h h P T K Y S ev → h 17 8 = S 5 t → h 17 12 = B_pc ab → h 17 13 = S 6 t → h 17 14 = S_ab S ab t → ∃ h', cr_kept_31 n (nI L) (nI b) (nI m) (S_ho S t) (nI k) h = some (nI (B_first (S_bu ev S ab t L b) k j), h') ∧ B_fr E_k h h' ∧ (B_first (S_bu ev S ab t L b) k j < m → h' 22 13 = S_P ev S ab t (nI (B_first (S_bu ev S ab t L b) k j)) (nI (L - B_first (S_bu ev S ab t L b) k j)) (nI (b + B_first (S_bu ev S ab t L b) k j))) := by
  intro j
  induction j with
  | zero =>
    intro k n h hk hn C e8 e12 e13 e14
    obtain ⟨n, rfl⟩ : ∃ n', n = n' + 1 := ⟨n - 1, by omega⟩
    have hkm : k = m := by omega
    subst hkm
    refine ⟨h, ?_, B_fr.refl _ _, fun q => absurd q (Nat.lt_irrefl _)⟩
    have e0 : px_max 0 (nI k) = nI k := by
      unfold px_max
      by_cases q : (0 : Int32) < nI k
      · rw [if_pos q]
      · rw [if_neg q]
        rw [bn_0lt (by omega)] at q
        rw [show k = 0 by omega, nI_0]
    simp (disch := omega) only [cr_kept_31, bn_le, bn_lt, bn_eq, bn_le0, bn_0le, bn_lt0, bn_0lt, bn_eq0, bn_0eq, bn_eqm, bn_mlt0, bn_0lem, bn_m0, bn_mle0, bn_ltm, bn_mlt, bn_mle, bn_lem, nI_add, pk_mul, pk_sub, nI_clamp, B_n_nI, bn_0, bc_0, bc_m1, bc_1, bc_2, bc_3, bc_4, bc_5, bc_6, bc_7, bc_8, bc_9, bc_10, bc_11, bc_12, bc_13, bc_16, bc_22, bc_24, bc_32, bc_40, bc_41, bc_42, bc_43, bc_44, bc_45, bc_47, bc_48, bc_52, bc_57, bc_58, bc_59, bc_60, bc_61, bc_62, bc_63, bc_64, bc_76, bc_80, bc_97, bc_99, bc_105, bc_106, bc_107, bc_108, bc_109, bc_110, bc_111, bc_112, bc_113, bc_114, bc_115, bc_116, bc_117, bc_118, bc_119, bc_120, bc_121, bc_122, bc_255, bc_256, bc_400, bc_572, bc_999, bc_1024, bc_10000, bc_m2, bc_m3, bc_m8, bc_m100, bc_m200, B_bind, B_bind_if, B_ift, B_bz0, B_bz1, B_01_bz, B_01_e0, B_01_e1, if_pos, if_neg, reduceIte, Bool.false_eq_true, Bool.true_eq_false, e0, B_first]
  | succ j ih =>
    intro k n h hk hn C e8 e12 e13 e14
    obtain ⟨n, rfl⟩ : ∃ n', n = n' + 1 := ⟨n - 1, by omega⟩
    obtain ⟨h1, p1, f1⟩ := C.2 h rfl rfl (nI k) (nI L - nI k) (nI b + nI k)
    have s1 : nI L - nI k = nI (L - k) := pk_sub (by omega)
    rw [e8, e12, e13, e14] at p1
    have p2 : ru_pressure (nI k) (nI L - nI k) (nI b + nI k) h = some (S_P ev S ab t (nI k) (nI (L - k)) (nI (b + k)), h1) := by
      rw [p1, s1, nI_add]
      rfl
    have F1 : B_fr E_k h (px_w h1 22 13 (S_P ev S ab t (nI k) (nI (L - k)) (nI (b + k)))) := (f1.mono E_fc_k).w rfl
    have hz : cr_kept_31 (n + 1) (nI L) (nI b) (nI m) (S_ho S t) (nI k) h = if S_bu ev S ab t L b k = true then some (nI k, px_w h1 22 13 (S_P ev S ab t (nI k) (nI (L - k)) (nI (b + k)))) else cr_kept_31 n (nI L) (nI b) (nI m) (S_ho S t) (nI (k + 1)) (px_w h1 22 13 (S_P ev S ab t (nI k) (nI (L - k)) (nI (b + k)))) := by
      have q0 : ¬ nI m ≤ nI k := nI_ge (by omega) (by omega)
      show (if nI m ≤ nI k then _ else _) = _
      rw [if_neg q0, p2, B_bind]
      dsimp only
      rw [B_w_same]
      unfold S_bu
      by_cases q : S_ho S t < S_P ev S ab t (nI k) (nI (L - k)) (nI (b + k))
      · rw [if_neg (Int32.not_le.mpr q), if_pos (decide_eq_true q)]
      · rw [if_pos (Int32.not_lt.mp q), if_neg (by simpa using q), bc_1, nI_add]
    rw [hz]
    unfold B_first
    by_cases q : S_bu ev S ab t L b k = true
    · rw [if_pos q, if_pos q]
      exact ⟨_, rfl, F1, fun _ => B_w_same _ _ _ _⟩
    · rw [if_neg q, if_neg q]
      obtain ⟨h2, g1, g2, g3⟩ := ih (k + 1) n _ (by omega) (by omega) (C.fr (F1.mono E_k_sc)) (by rw [B_w_cell _ _ _ (by decide), f1 17 8 rfl, e8]) (by rw [B_w_cell _ _ _ (by decide), f1 17 12 rfl, e12]) (by rw [B_w_cell _ _ _ (by decide), f1 17 13 rfl, e13]) (by rw [B_w_cell _ _ _ (by decide), f1 17 14 rfl, e14])
      exact ⟨h2, g1, F1.trans g2, g3⟩
theorem cr_kept_s {t L b m : Nat} (ht : t < T) (hL : L ≤ 40) (hb : b ≤ 60) (hm : m ≤ L) (hab : h 22 6 = ab) (C : C_h h P T K Y S ev) (W : R_w P T K Y S) : ∃ h', cr_kept (nI t) (nI L) (nI b) (nI m) h = some (nI (B_first (S_bu ev S ab t L b) 0 m), h') ∧ B_fr E_k h h' ∧ (B_first (S_bu ev S ab t L b) 0 m < m → h' 22 13 = S_P ev S ab t (nI (B_first (S_bu ev S ab t L b) 0 m)) (nI (L - B_first (S_bu ev S ab t L b) 0 m)) (nI (b + B_first (S_bu ev S ab t L b) 0 m))) := by
  have C' := C
  have W' := W
  obtain ⟨R, -⟩ := C
  have R' := R
  obtain ⟨hP, hT, hK, hY, c0, c1, c2, c3, c4, c5, c6, c7, c8, c9, c10⟩ := R
  obtain ⟨h6, h10, h5, hY2, hY60, w0, w1, w2, w4, w6, w7, w8, w9, w10, w11⟩ := W
  obtain ⟨v, hv, e6⟩ := w6 t ht
  have F0 := B_con_fr h S ab t
  obtain ⟨h1, g1, g2, g3⟩ := cr_kept_loop (t := t) (L := L) (b := b) (m := m) (ab := ab) (ev := ev) hL hb hm W' m 0 px_F (B_con h S ab t) (by omega) (px_F_lt (by omega)) (C'.fr (F0.mono E_k_sc)) (by unfold B_con; rw [B_w_at, if_neg (by decide), B_w_at, if_neg (by decide), B_w_at, if_neg (by decide), B_w_at, if_pos rfl]) (by unfold B_con; rw [B_w_at, if_neg (by decide), B_w_at, if_pos rfl]) (by unfold B_con; rw [B_w_at, if_neg (by decide), B_w_at, if_neg (by decide), B_w_at, if_pos rfl]) (by unfold B_con; rw [B_w_at, if_pos rfl])
  refine ⟨h1, ?_, F0.trans g2, g3⟩
  have eh : S_ho S t = S 0 v := by
    unfold S_ho
    rw [e6, B_n_nI (by omega)]
  unfold cr_kept
  simp (disch := omega) only [c6, e6, c0, bn_le, bn_lt, bn_eq, bn_le0, bn_0le, bn_lt0, bn_0lt, bn_eq0, bn_0eq, bn_eqm, bn_mlt0, bn_0lem, bn_m0, bn_mle0, bn_ltm, bn_mlt, bn_mle, bn_lem, nI_add, pk_mul, pk_sub, nI_clamp, B_n_nI, bn_0, bc_0, bc_m1, bc_1, bc_2, bc_3, bc_4, bc_5, bc_6, bc_7, bc_8, bc_9, bc_10, bc_11, bc_12, bc_13, bc_16, bc_22, bc_24, bc_32, bc_40, bc_41, bc_42, bc_43, bc_44, bc_45, bc_47, bc_48, bc_52, bc_57, bc_58, bc_59, bc_60, bc_61, bc_62, bc_63, bc_64, bc_76, bc_80, bc_97, bc_99, bc_105, bc_106, bc_107, bc_108, bc_109, bc_110, bc_111, bc_112, bc_113, bc_114, bc_115, bc_116, bc_117, bc_118, bc_119, bc_120, bc_121, bc_122, bc_255, bc_256, bc_400, bc_572, bc_999, bc_1024, bc_10000, bc_m2, bc_m3, bc_m8, bc_m100, bc_m200, B_bind, B_bind_if, B_ift, B_bz0, B_bz1, B_01_bz, B_01_e0, B_01_e1, if_pos, if_neg, reduceIte, Bool.false_eq_true, Bool.true_eq_false, wa_4, wz_4, wa_5, wz_5, wa_6, wz_6, wa_7, wz_7, wa_8, wz_8, wa_9, wz_9, wa_10, wz_10, wa_11, wz_11, wa_12, wz_12, wa_13, wz_13, wa_15, wz_15, wa_16, wz_16, wa_18, wz_18, wa_19, wz_19, wa_20, wz_20, wa_23, wz_23, wa_24, wz_24, wa_26, wz_26, wa_27, wz_27, wa_28, wz_28, wa_29, wz_29, wa_30, wz_30, wa_31, wz_31, wa_32, wz_32, wa_34, wz_34, wa_35, wz_35, wa_36, wz_36, wa_37, wz_37, wa_38, wz_38, wa_39, wz_39, wa_40, wz_40, wa_42, wz_42, wa_44, wz_44, wa_46, wz_46, wa_48, wz_48, wa_49, wz_49, wa_50, wz_50, cr_consider_s ht hab R' W']
  rw [← eh, ← nI_0, g1]
end KEPT
