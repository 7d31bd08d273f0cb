/-! Layer B: what is kept: save and load, lay and remember -/
section MEM
variable {h : pH} {P T K Y a : Nat} {S Z : pH}
/-- places b .. b + 51 of the class's store hold what changes -/
def B_sv1 (b : Nat) : Nat → pH → pH := fun k h => px_w (px_w h 42 (b + 2 * k) (h 5 k)) 42 (b + 2 * k + 1) (h 6 k)
def B_sv2 (b : Nat) : Nat → pH → pH := fun k h => px_w (px_w (px_w (px_w h 42 (b + 12 + 4 * k) (h 8 k)) 42 (b + 12 + 4 * k + 1) (h 12 k)) 42 (b + 12 + 4 * k + 2) (h 10 k)) 42 (b + 12 + 4 * k + 3) (h 13 k)
def B_sv (b : Nat) (h : pH) : pH := B_fold (B_sv2 b) 0 10 (B_fold (B_sv1 b) 0 6 h)
theorem hs_save_s {b : Nat} (hb : b + 52 ≤ 780) : hs_save 42 (nI b) h = some (0, B_sv b h) := by
  unfold hs_save B_sv
  rw [bc_0]
  have e2 : ∀ h0 : pH, hs_save_58 px_F 42 (nI (b + 12)) (nI 0) h0 = some (0, B_fold (B_sv2 b) 0 10 h0) := fun h0 => by
    refine B_loop0 (fun n h k => hs_save_58 n 42 (nI (b + 12)) (nI k) h) 10 (B_sv2 b) (fun h => some (0, h)) (by omega) (fun n h k hk => ?_) (fun n h => ?_) h0
    · simp (disch := omega) only [hs_save_58, bn_le, bn_lt, bn_eq, bn_le0, bn_0le, bn_lt0, bn_0lt, bn_eq0, bn_0eq, bn_eqm, bn_mlt0, bn_0lem, bn_m0, bn_mle0, bn_ltm, bn_mlt, bn_mle, bn_lem, nI_add, pk_mul, pk_sub, nI_clamp, B_n_nI, bn_0, bc_0, bc_m1, bc_1, bc_2, bc_3, bc_4, bc_5, bc_6, bc_7, bc_8, bc_9, bc_10, bc_11, bc_12, bc_13, bc_16, bc_22, bc_24, bc_32, bc_40, bc_41, bc_42, bc_43, bc_44, bc_45, bc_47, bc_48, bc_52, bc_57, bc_58, bc_59, bc_60, bc_61, bc_62, bc_63, bc_64, bc_76, bc_80, bc_97, bc_99, bc_105, bc_106, bc_107, bc_108, bc_109, bc_110, bc_111, bc_112, bc_113, bc_114, bc_115, bc_116, bc_117, bc_118, bc_119, bc_120, bc_121, bc_122, bc_255, bc_256, bc_400, bc_572, bc_999, bc_1024, bc_10000, bc_m2, bc_m3, bc_m8, bc_m100, bc_m200, B_bind, B_bind_if, B_ift, B_bz0, B_bz1, B_01_bz, B_01_e0, B_01_e1, if_pos, if_neg, reduceIte, Bool.false_eq_true, Bool.true_eq_false, wa_4, wz_4, wa_5, wz_5, wa_6, wz_6, wa_7, wz_7, wa_8, wz_8, wa_9, wz_9, wa_10, wz_10, wa_11, wz_11, wa_12, wz_12, wa_13, wz_13, wa_15, wz_15, wa_16, wz_16, wa_18, wz_18, wa_19, wz_19, wa_20, wz_20, wa_23, wz_23, wa_24, wz_24, wa_26, wz_26, wa_27, wz_27, wa_28, wz_28, wa_29, wz_29, wa_30, wz_30, wa_31, wz_31, wa_32, wz_32, wa_34, wz_34, wa_35, wz_35, wa_36, wz_36, wa_37, wz_37, wa_38, wz_38, wa_39, wz_39, wa_40, wz_40, wa_42, wz_42, wa_44, wz_44, wa_46, wz_46, wa_48, wz_48, wa_49, wz_49, wa_50, wz_50, wp_4, wq_4, wp_5, wq_5, wp_6, wq_6, wp_7, wq_7, wp_8, wq_8, wp_9, wq_9, wp_10, wq_10, wp_11, wq_11, wp_12, wq_12, wp_13, wq_13, wp_15, wq_15, wp_16, wq_16, wp_18, wq_18, wp_19, wq_19, wp_20, wq_20, wp_23, wq_23, wp_24, wq_24, wp_26, wq_26, wp_27, wq_27, wp_28, wq_28, wp_29, wq_29, wp_30, wq_30, wp_31, wq_31, wp_32, wq_32, wp_34, wq_34, wp_35, wq_35, wp_36, wq_36, wp_37, wq_37, wp_38, wq_38, wp_39, wq_39, wp_40, wq_40, wp_42, wq_42, wp_44, wq_44, wp_46, wq_46, wp_48, wq_48, wp_49, wq_49, wp_50, wq_50, B_w_same, B_w_cell, B_w_at, B_sv2]
    · simp (disch := omega) only [hs_save_58, bn_le, bn_lt, bn_eq, bn_le0, bn_0le, bn_lt0, bn_0lt, bn_eq0, bn_0eq, bn_eqm, bn_mlt0, bn_0lem, bn_m0, bn_mle0, bn_ltm, bn_mlt, bn_mle, bn_lem, nI_add, pk_mul, pk_sub, nI_clamp, B_n_nI, bn_0, bc_0, bc_m1, bc_1, bc_2, bc_3, bc_4, bc_5, bc_6, bc_7, bc_8, bc_9, bc_10, bc_11, bc_12, bc_13, bc_16, bc_22, bc_24, bc_32, bc_40, bc_41, bc_42, bc_43, bc_44, bc_45, bc_47, bc_48, bc_52, bc_57, bc_58, bc_59, bc_60, bc_61, bc_62, bc_63, bc_64, bc_76, bc_80, bc_97, bc_99, bc_105, bc_106, bc_107, bc_108, bc_109, bc_110, bc_111, bc_112, bc_113, bc_114, bc_115, bc_116, bc_117, bc_118, bc_119, bc_120, bc_121, bc_122, bc_255, bc_256, bc_400, bc_572, bc_999, bc_1024, bc_10000, bc_m2, bc_m3, bc_m8, bc_m100, bc_m200, B_bind, B_bind_if, B_ift, B_bz0, B_bz1, B_01_bz, B_01_e0, B_01_e1, if_pos, if_neg, reduceIte, Bool.false_eq_true, Bool.true_eq_false]
  rw [← nI_0]
  refine B_loop0 (fun n h k => hs_save_2 n 42 (nI b) (nI k) h) 6 (B_sv1 b) (fun h => some (nI 0, B_fold (B_sv2 b) 0 10 h)) (by omega) (fun n h k hk => ?_) (fun n h => ?_) h
  · simp (disch := omega) only [hs_save_2, bn_le, bn_lt, bn_eq, bn_le0, bn_0le, bn_lt0, bn_0lt, bn_eq0, bn_0eq, bn_eqm, bn_mlt0, bn_0lem, bn_m0, bn_mle0, bn_ltm, bn_mlt, bn_mle, bn_lem, nI_add, pk_mul, pk_sub, nI_clamp, B_n_nI, bn_0, bc_0, bc_m1, bc_1, bc_2, bc_3, bc_4, bc_5, bc_6, bc_7, bc_8, bc_9, bc_10, bc_11, bc_12, bc_13, bc_16, bc_22, bc_24, bc_32, bc_40, bc_41, bc_42, bc_43, bc_44, bc_45, bc_47, bc_48, bc_52, bc_57, bc_58, bc_59, bc_60, bc_61, bc_62, bc_63, bc_64, bc_76, bc_80, bc_97, bc_99, bc_105, bc_106, bc_107, bc_108, bc_109, bc_110, bc_111, bc_112, bc_113, bc_114, bc_115, bc_116, bc_117, bc_118, bc_119, bc_120, bc_121, bc_122, bc_255, bc_256, bc_400, bc_572, bc_999, bc_1024, bc_10000, bc_m2, bc_m3, bc_m8, bc_m100, bc_m200, B_bind, B_bind_if, B_ift, B_bz0, B_bz1, B_01_bz, B_01_e0, B_01_e1, if_pos, if_neg, reduceIte, Bool.false_eq_true, Bool.true_eq_false, wa_4, wz_4, wa_5, wz_5, wa_6, wz_6, wa_7, wz_7, wa_8, wz_8, wa_9, wz_9, wa_10, wz_10, wa_11, wz_11, wa_12, wz_12, wa_13, wz_13, wa_15, wz_15, wa_16, wz_16, wa_18, wz_18, wa_19, wz_19, wa_20, wz_20, wa_23, wz_23, wa_24, wz_24, wa_26, wz_26, wa_27, wz_27, wa_28, wz_28, wa_29, wz_29, wa_30, wz_30, wa_31, wz_31, wa_32, wz_32, wa_34, wz_34, wa_35, wz_35, wa_36, wz_36, wa_37, wz_37, wa_38, wz_38, wa_39, wz_39, wa_40, wz_40, wa_42, wz_42, wa_44, wz_44, wa_46, wz_46, wa_48, wz_48, wa_49, wz_49, wa_50, wz_50, wp_4, wq_4, wp_5, wq_5, wp_6, wq_6, wp_7, wq_7, wp_8, wq_8, wp_9, wq_9, wp_10, wq_10, wp_11, wq_11, wp_12, wq_12, wp_13, wq_13, wp_15, wq_15, wp_16, wq_16, wp_18, wq_18, wp_19, wq_19, wp_20, wq_20, wp_23, wq_23, wp_24, wq_24, wp_26, wq_26, wp_27, wq_27, wp_28, wq_28, wp_29, wq_29, wp_30, wq_30, wp_31, wq_31, wp_32, wq_32, wp_34, wq_34, wp_35, wq_35, wp_36, wq_36, wp_37, wq_37, wp_38, wq_38, wp_39, wq_39, wp_40, wq_40, wp_42, wq_42, wp_44, wq_44, wp_46, wq_46, wp_48, wq_48, wp_49, wq_49, wp_50, wq_50, B_w_same, B_w_cell, B_w_at, B_sv1]
  · have e3 := e2 h
    rw [nI_0] at e3
    simp (disch := omega) only [hs_save_2, bn_le, bn_lt, bn_eq, bn_le0, bn_0le, bn_lt0, bn_0lt, bn_eq0, bn_0eq, bn_eqm, bn_mlt0, bn_0lem, bn_m0, bn_mle0, bn_ltm, bn_mlt, bn_mle, bn_lem, nI_add, pk_mul, pk_sub, nI_clamp, B_n_nI, bn_0, bc_0, bc_m1, bc_1, bc_2, bc_3, bc_4, bc_5, bc_6, bc_7, bc_8, bc_9, bc_10, bc_11, bc_12, bc_13, bc_16, bc_22, bc_24, bc_32, bc_40, bc_41, bc_42, bc_43, bc_44, bc_45, bc_47, bc_48, bc_52, bc_57, bc_58, bc_59, bc_60, bc_61, bc_62, bc_63, bc_64, bc_76, bc_80, bc_97, bc_99, bc_105, bc_106, bc_107, bc_108, bc_109, bc_110, bc_111, bc_112, bc_113, bc_114, bc_115, bc_116, bc_117, bc_118, bc_119, bc_120, bc_121, bc_122, bc_255, bc_256, bc_400, bc_572, bc_999, bc_1024, bc_10000, bc_m2, bc_m3, bc_m8, bc_m100, bc_m200, B_bind, B_bind_if, B_ift, B_bz0, B_bz1, B_01_bz, B_01_e0, B_01_e1, if_pos, if_neg, reduceIte, Bool.false_eq_true, Bool.true_eq_false, e3]
theorem B_sv1_inv {b : Nat} : (∀ a, a ≠ 42 → B_fold (B_sv1 b) 0 6 h a = h a) ∧ (∀ j, j < 6 → B_fold (B_sv1 b) 0 6 h 42 (b + 2 * j) = h 5 j ∧ B_fold (B_sv1 b) 0 6 h 42 (b + 2 * j + 1) = h 6 j) ∧ (∀ j, j < b ∨ b + 12 ≤ j → B_fold (B_sv1 b) 0 6 h 42 j = h 42 j) := by
  have := B_fold_inv (g := B_sv1 b) (fun k h' => (∀ a, a ≠ 42 → h' a = h a) ∧ (∀ j, j < k → h' 42 (b + 2 * j) = h 5 j ∧ h' 42 (b + 2 * j + 1) = h 6 j) ∧ (∀ j, j < b ∨ b + 12 ≤ j → h' 42 j = h 42 j)) 6 0 h ⟨fun _ _ => rfl, fun j hj => absurd hj (by omega), fun _ _ => rfl⟩ (fun k h' _ hk ⟨i1, i2, i3⟩ => by
    refine ⟨fun a ha => ?_, fun j hj => ?_, fun j hj => ?_⟩
    · unfold B_sv1
      rw [B_w_cell _ _ _ ha, B_w_cell _ _ _ ha, i1 a ha]
    · unfold B_sv1
      rw [B_w_at, B_w_at, B_w_at, B_w_at, i1 5 (by decide), i1 6 (by decide)]
      by_cases q : j = k
      · subst q
        exact ⟨by rw [if_neg (by omega), if_pos rfl], by rw [if_pos rfl]⟩
      · exact ⟨by rw [if_neg (by omega), if_neg (by omega)]; exact (i2 j (by omega)).1, by rw [if_neg (by omega), if_neg (by omega)]; exact (i2 j (by omega)).2⟩
    · unfold B_sv1
      rw [B_w_at, B_w_at, if_neg (by omega), if_neg (by omega)]
      exact i3 j hj)
  exact this
theorem B_sv_inv {b : Nat} : (∀ a, a ≠ 42 → B_sv b h a = h a) ∧ (∀ j, j < 6 → B_sv b h 42 (b + 2 * j) = h 5 j ∧ B_sv b h 42 (b + 2 * j + 1) = h 6 j) ∧ (∀ j, j < 10 → B_sv b h 42 (b + 12 + 4 * j) = h 8 j ∧ B_sv b h 42 (b + 12 + 4 * j + 1) = h 12 j ∧ B_sv b h 42 (b + 12 + 4 * j + 2) = h 10 j ∧ B_sv b h 42 (b + 12 + 4 * j + 3) = h 13 j) ∧ (∀ j, j < b ∨ b + 52 ≤ j → B_sv b h 42 j = h 42 j) := by
  obtain ⟨o1, o2, o3⟩ := B_sv1_inv (h := h) (b := b)
  have := B_fold_inv (g := B_sv2 b) (fun k h' => (∀ a, a ≠ 42 → h' a = h a) ∧ (∀ j, j < k → h' 42 (b + 12 + 4 * j) = h 8 j ∧ h' 42 (b + 12 + 4 * j + 1) = h 12 j ∧ h' 42 (b + 12 + 4 * j + 2) = h 10 j ∧ h' 42 (b + 12 + 4 * j + 3) = h 13 j) ∧ (∀ j, j < b + 12 ∨ b + 52 ≤ j → h' 42 j = B_fold (B_sv1 b) 0 6 h 42 j)) 10 0 (B_fold (B_sv1 b) 0 6 h) ⟨o1, fun j hj => absurd hj (by omega), fun _ _ => rfl⟩ (fun k h' _ hk ⟨i1, i2, i3⟩ => by
    refine ⟨fun a ha => ?_, fun j hj => ?_, fun j hj => ?_⟩
    · unfold B_sv2
      rw [B_w_cell _ _ _ ha, B_w_cell _ _ _ ha, B_w_cell _ _ _ ha, B_w_cell _ _ _ ha, i1 a ha]
    · unfold B_sv2
      simp only [B_w_at]
      rw [i1 8 (by decide), i1 12 (by decide), i1 10 (by decide), i1 13 (by decide)]
      by_cases q : j = k
      · subst q
        refine ⟨?_, ?_, ?_, ?_⟩
        · rw [if_neg (by omega), if_neg (by omega), if_neg (by omega), if_pos rfl]
        · rw [if_neg (by omega), if_neg (by omega), if_pos rfl]
        · rw [if_neg (by omega), if_pos rfl]
        · rw [if_pos rfl]
      · obtain ⟨j1, j2, j3, j4⟩ := i2 j (by omega)
        refine ⟨?_, ?_, ?_, ?_⟩
        · rw [if_neg (by omega), if_neg (by omega), if_neg (by omega), if_neg (by omega)]
          exact j1
        · rw [if_neg (by omega), if_neg (by omega), if_neg (by omega), if_neg (by omega)]
          exact j2
        · rw [if_neg (by omega), if_neg (by omega), if_neg (by omega), if_neg (by omega)]
          exact j3
        · rw [if_neg (by omega), if_neg (by omega), if_neg (by omega), if_neg (by omega)]
          exact j4
    · unfold B_sv2
      simp only [B_w_at]
      rw [if_neg (by omega), if_neg (by omega), if_neg (by omega), if_neg (by omega)]
      exact i3 j hj)
  obtain ⟨p1, p2, p3⟩ := this
  refine ⟨p1, fun j hj => ?_, p2, fun j hj => ?_⟩
  · have q1 := p3 (b + 2 * j) (by omega)
    have q2 := p3 (b + 2 * j + 1) (by omega)
    obtain ⟨r1, r2⟩ := o2 j hj
    exact ⟨q1.trans r1, q2.trans r2⟩
  · exact (p3 j (by omega)).trans (o3 j (by omega))
theorem B_sv_Q {b : Nat} (R : R_c h P T K Y S) (W : R_w P T K Y S) : Q_c (B_sv b h 42) b P T S := by
  obtain ⟨-, s2, s3, -⟩ := B_sv_inv (h := h) (b := b)
  obtain ⟨hP, hT, hK, hY, c0, c1, c2, c3, c4, c5, c6, c7, c8, c9, c10⟩ := R
  obtain ⟨h6, h10, -⟩ := W
  refine ⟨fun p hp => ?_, fun p hp => ?_, fun t ht => ?_, fun t ht => ?_, fun t ht => ?_, fun t ht => ?_⟩
  · rw [(s2 p (by omega)).1, c1 p hp]
  · rw [(s2 p (by omega)).2, c2 p hp]
  · rw [(s3 t (by omega)).1, c4 t ht]
  · rw [(s3 t (by omega)).2.1, c8 t ht]
  · rw [(s3 t (by omega)).2.2.1, c6 t ht]
  · rw [(s3 t (by omega)).2.2.2, c9 t ht]
def B_ld1 (b : Nat) : Nat → pH → pH := fun k h => px_w (px_w h 5 k (h 42 (b + 2 * k))) 6 k (h 42 (b + 2 * k + 1))
def B_ld2 (b : Nat) : Nat → pH → pH := fun k h => px_w (px_w (px_w (px_w h 8 k (h 42 (b + 12 + 4 * k))) 12 k (h 42 (b + 12 + 4 * k + 1))) 10 k (h 42 (b + 12 + 4 * k + 2))) 13 k (h 42 (b + 12 + 4 * k + 3))
def B_lo (b : Nat) (h : pH) : pH := B_fold (B_ld2 b) 0 10 (B_fold (B_ld1 b) 0 6 h)
theorem hs_load_s {b : Nat} (hb : b + 52 ≤ 780) : hs_load 42 (nI b) h = some (0, B_lo b h) := by
  unfold hs_load B_lo
  rw [bc_0]
  have e2 : ∀ h0 : pH, hs_load_58 px_F 42 (nI (b + 12)) (nI 0) h0 = some (0, B_fold (B_ld2 b) 0 10 h0) := fun h0 => by
    refine B_loop0 (fun n h k => hs_load_58 n 42 (nI (b + 12)) (nI k) h) 10 (B_ld2 b) (fun h => some (0, h)) (by omega) (fun n h k hk => ?_) (fun n h => ?_) h0
    · simp (disch := omega) only [hs_load_58, bn_le, bn_lt, bn_eq, bn_le0, bn_0le, bn_lt0, bn_0lt, bn_eq0, bn_0eq, bn_eqm, bn_mlt0, bn_0lem, bn_m0, bn_mle0, bn_ltm, bn_mlt, bn_mle, bn_lem, nI_add, pk_mul, pk_sub, nI_clamp, B_n_nI, bn_0, bc_0, bc_m1, bc_1, bc_2, bc_3, bc_4, bc_5, bc_6, bc_7, bc_8, bc_9, bc_10, bc_11, bc_12, bc_13, bc_16, bc_22, bc_24, bc_32, bc_40, bc_41, bc_42, bc_43, bc_44, bc_45, bc_47, bc_48, bc_52, bc_57, bc_58, bc_59, bc_60, bc_61, bc_62, bc_63, bc_64, bc_76, bc_80, bc_97, bc_99, bc_105, bc_106, bc_107, bc_108, bc_109, bc_110, bc_111, bc_112, bc_113, bc_114, bc_115, bc_116, bc_117, bc_118, bc_119, bc_120, bc_121, bc_122, bc_255, bc_256, bc_400, bc_572, bc_999, bc_1024, bc_10000, bc_m2, bc_m3, bc_m8, bc_m100, bc_m200, B_bind, B_bind_if, B_ift, B_bz0, B_bz1, B_01_bz, B_01_e0, B_01_e1, if_pos, if_neg, reduceIte, Bool.false_eq_true, Bool.true_eq_false, wa_4, wz_4, wa_5, wz_5, wa_6, wz_6, wa_7, wz_7, wa_8, wz_8, wa_9, wz_9, wa_10, wz_10, wa_11, wz_11, wa_12, wz_12, wa_13, wz_13, wa_15, wz_15, wa_16, wz_16, wa_18, wz_18, wa_19, wz_19, wa_20, wz_20, wa_23, wz_23, wa_24, wz_24, wa_26, wz_26, wa_27, wz_27, wa_28, wz_28, wa_29, wz_29, wa_30, wz_30, wa_31, wz_31, wa_32, wz_32, wa_34, wz_34, wa_35, wz_35, wa_36, wz_36, wa_37, wz_37, wa_38, wz_38, wa_39, wz_39, wa_40, wz_40, wa_42, wz_42, wa_44, wz_44, wa_46, wz_46, wa_48, wz_48, wa_49, wz_49, wa_50, wz_50, wp_4, wq_4, wp_5, wq_5, wp_6, wq_6, wp_7, wq_7, wp_8, wq_8, wp_9, wq_9, wp_10, wq_10, wp_11, wq_11, wp_12, wq_12, wp_13, wq_13, wp_15, wq_15, wp_16, wq_16, wp_18, wq_18, wp_19, wq_19, wp_20, wq_20, wp_23, wq_23, wp_24, wq_24, wp_26, wq_26, wp_27, wq_27, wp_28, wq_28, wp_29, wq_29, wp_30, wq_30, wp_31, wq_31, wp_32, wq_32, wp_34, wq_34, wp_35, wq_35, wp_36, wq_36, wp_37, wq_37, wp_38, wq_38, wp_39, wq_39, wp_40, wq_40, wp_42, wq_42, wp_44, wq_44, wp_46, wq_46, wp_48, wq_48, wp_49, wq_49, wp_50, wq_50, B_w_same, B_w_cell, B_w_at, B_ld2]
    · simp (disch := omega) only [hs_load_58, bn_le, bn_lt, bn_eq, bn_le0, bn_0le, bn_lt0, bn_0lt, bn_eq0, bn_0eq, bn_eqm, bn_mlt0, bn_0lem, bn_m0, bn_mle0, bn_ltm, bn_mlt, bn_mle, bn_lem, nI_add, pk_mul, pk_sub, nI_clamp, B_n_nI, bn_0, bc_0, bc_m1, bc_1, bc_2, bc_3, bc_4, bc_5, bc_6, bc_7, bc_8, bc_9, bc_10, bc_11, bc_12, bc_13, bc_16, bc_22, bc_24, bc_32, bc_40, bc_41, bc_42, bc_43, bc_44, bc_45, bc_47, bc_48, bc_52, bc_57, bc_58, bc_59, bc_60, bc_61, bc_62, bc_63, bc_64, bc_76, bc_80, bc_97, bc_99, bc_105, bc_106, bc_107, bc_108, bc_109, bc_110, bc_111, bc_112, bc_113, bc_114, bc_115, bc_116, bc_117, bc_118, bc_119, bc_120, bc_121, bc_122, bc_255, bc_256, bc_400, bc_572, bc_999, bc_1024, bc_10000, bc_m2, bc_m3, bc_m8, bc_m100, bc_m200, B_bind, B_bind_if, B_ift, B_bz0, B_bz1, B_01_bz, B_01_e0, B_01_e1, if_pos, if_neg, reduceIte, Bool.false_eq_true, Bool.true_eq_false]
  rw [← nI_0]
  refine B_loop0 (fun n h k => hs_load_2 n 42 (nI b) (nI k) h) 6 (B_ld1 b) (fun h => some (nI 0, B_fold (B_ld2 b) 0 10 h)) (by omega) (fun n h k hk => ?_) (fun n h => ?_) h
  · simp (disch := omega) only [hs_load_2, bn_le, bn_lt, bn_eq, bn_le0, bn_0le, bn_lt0, bn_0lt, bn_eq0, bn_0eq, bn_eqm, bn_mlt0, bn_0lem, bn_m0, bn_mle0, bn_ltm, bn_mlt, bn_mle, bn_lem, nI_add, pk_mul, pk_sub, nI_clamp, B_n_nI, bn_0, bc_0, bc_m1, bc_1, bc_2, bc_3, bc_4, bc_5, bc_6, bc_7, bc_8, bc_9, bc_10, bc_11, bc_12, bc_13, bc_16, bc_22, bc_24, bc_32, bc_40, bc_41, bc_42, bc_43, bc_44, bc_45, bc_47, bc_48, bc_52, bc_57, bc_58, bc_59, bc_60, bc_61, bc_62, bc_63, bc_64, bc_76, bc_80, bc_97, bc_99, bc_105, bc_106, bc_107, bc_108, bc_109, bc_110, bc_111, bc_112, bc_113, bc_114, bc_115, bc_116, bc_117, bc_118, bc_119, bc_120, bc_121, bc_122, bc_255, bc_256, bc_400, bc_572, bc_999, bc_1024, bc_10000, bc_m2, bc_m3, bc_m8, bc_m100, bc_m200, B_bind, B_bind_if, B_ift, B_bz0, B_bz1, B_01_bz, B_01_e0, B_01_e1, if_pos, if_neg, reduceIte, Bool.false_eq_true, Bool.true_eq_false, wa_4, wz_4, wa_5, wz_5, wa_6, wz_6, wa_7, wz_7, wa_8, wz_8, wa_9, wz_9, wa_10, wz_10, wa_11, wz_11, wa_12, wz_12, wa_13, wz_13, wa_15, wz_15, wa_16, wz_16, wa_18, wz_18, wa_19, wz_19, wa_20, wz_20, wa_23, wz_23, wa_24, wz_24, wa_26, wz_26, wa_27, wz_27, wa_28, wz_28, wa_29, wz_29, wa_30, wz_30, wa_31, wz_31, wa_32, wz_32, wa_34, wz_34, wa_35, wz_35, wa_36, wz_36, wa_37, wz_37, wa_38, wz_38, wa_39, wz_39, wa_40, wz_40, wa_42, wz_42, wa_44, wz_44, wa_46, wz_46, wa_48, wz_48, wa_49, wz_49, wa_50, wz_50, wp_4, wq_4, wp_5, wq_5, wp_6, wq_6, wp_7, wq_7, wp_8, wq_8, wp_9, wq_9, wp_10, wq_10, wp_11, wq_11, wp_12, wq_12, wp_13, wq_13, wp_15, wq_15, wp_16, wq_16, wp_18, wq_18, wp_19, wq_19, wp_20, wq_20, wp_23, wq_23, wp_24, wq_24, wp_26, wq_26, wp_27, wq_27, wp_28, wq_28, wp_29, wq_29, wp_30, wq_30, wp_31, wq_31, wp_32, wq_32, wp_34, wq_34, wp_35, wq_35, wp_36, wq_36, wp_37, wq_37, wp_38, wq_38, wp_39, wq_39, wp_40, wq_40, wp_42, wq_42, wp_44, wq_44, wp_46, wq_46, wp_48, wq_48, wp_49, wq_49, wp_50, wq_50, B_w_same, B_w_cell, B_w_at, B_ld1]
  · have e3 := e2 h
    rw [nI_0] at e3
    simp (disch := omega) only [hs_load_2, bn_le, bn_lt, bn_eq, bn_le0, bn_0le, bn_lt0, bn_0lt, bn_eq0, bn_0eq, bn_eqm, bn_mlt0, bn_0lem, bn_m0, bn_mle0, bn_ltm, bn_mlt, bn_mle, bn_lem, nI_add, pk_mul, pk_sub, nI_clamp, B_n_nI, bn_0, bc_0, bc_m1, bc_1, bc_2, bc_3, bc_4, bc_5, bc_6, bc_7, bc_8, bc_9, bc_10, bc_11, bc_12, bc_13, bc_16, bc_22, bc_24, bc_32, bc_40, bc_41, bc_42, bc_43, bc_44, bc_45, bc_47, bc_48, bc_52, bc_57, bc_58, bc_59, bc_60, bc_61, bc_62, bc_63, bc_64, bc_76, bc_80, bc_97, bc_99, bc_105, bc_106, bc_107, bc_108, bc_109, bc_110, bc_111, bc_112, bc_113, bc_114, bc_115, bc_116, bc_117, bc_118, bc_119, bc_120, bc_121, bc_122, bc_255, bc_256, bc_400, bc_572, bc_999, bc_1024, bc_10000, bc_m2, bc_m3, bc_m8, bc_m100, bc_m200, B_bind, B_bind_if, B_ift, B_bz0, B_bz1, B_01_bz, B_01_e0, B_01_e1, if_pos, if_neg, reduceIte, Bool.false_eq_true, Bool.true_eq_false, e3]
theorem B_lo_inv {b : Nat} : (∀ a, a ≠ 5 → a ≠ 6 → a ≠ 8 → a ≠ 10 → a ≠ 12 → a ≠ 13 → B_lo b h a = h a) ∧ (∀ j, j < 6 → B_lo b h 5 j = h 42 (b + 2 * j) ∧ B_lo b h 6 j = h 42 (b + 2 * j + 1)) ∧ (∀ j, j < 10 → B_lo b h 8 j = h 42 (b + 12 + 4 * j) ∧ B_lo b h 12 j = h 42 (b + 12 + 4 * j + 1) ∧ B_lo b h 10 j = h 42 (b + 12 + 4 * j + 2) ∧ B_lo b h 13 j = h 42 (b + 12 + 4 * j + 3)) := by
  have o := B_fold_inv (g := B_ld1 b) (fun k h' => (∀ a, a ≠ 5 → a ≠ 6 → h' a = h a) ∧ (∀ j, j < k → h' 5 j = h 42 (b + 2 * j) ∧ h' 6 j = h 42 (b + 2 * j + 1))) 6 0 h ⟨fun _ _ _ => rfl, fun j hj => absurd hj (by omega)⟩ (fun k h' _ hk ⟨i1, i2⟩ => by
    refine ⟨fun a ha hb => ?_, fun j hj => ?_⟩
    · unfold B_ld1
      rw [B_w_cell _ _ _ hb, B_w_cell _ _ _ ha, i1 a ha hb]
    · unfold B_ld1
      rw [B_w_cell _ _ _ (show (5 : Nat) ≠ 6 by decide), B_w_at, B_w_at, B_w_cell _ _ _ (show (6 : Nat) ≠ 5 by decide), i1 42 (by decide) (by decide)]
      by_cases q : j = k
      · subst q
        rw [if_pos rfl, if_pos rfl]
        exact ⟨rfl, rfl⟩
      · rw [if_neg q, if_neg q]
        exact i2 j (by omega))
  obtain ⟨o1, o2⟩ := o
  have := B_fold_inv (g := B_ld2 b) (fun k h' => (∀ a, a ≠ 8 → a ≠ 10 → a ≠ 12 → a ≠ 13 → h' a = B_fold (B_ld1 b) 0 6 h a) ∧ (∀ j, j < k → h' 8 j = h 42 (b + 12 + 4 * j) ∧ h' 12 j = h 42 (b + 12 + 4 * j + 1) ∧ h' 10 j = h 42 (b + 12 + 4 * j + 2) ∧ h' 13 j = h 42 (b + 12 + 4 * j + 3))) 10 0 (B_fold (B_ld1 b) 0 6 h) ⟨fun _ _ _ _ _ => rfl, fun j hj => absurd hj (by omega)⟩ (fun k h' _ hk ⟨i1, i2⟩ => by
    have e42 : h' 42 = h 42 := (i1 42 (by decide) (by decide) (by decide) (by decide)).trans (o1 42 (by decide) (by decide))
    refine ⟨fun a h1 h2 h3 h4 => ?_, fun j hj => ?_⟩
    · unfold B_ld2
      rw [B_w_cell _ _ _ h4, B_w_cell _ _ _ h2, B_w_cell _ _ _ h3, B_w_cell _ _ _ h1, i1 a h1 h2 h3 h4]
    · unfold B_ld2
      rw [B_w_cell _ _ _ (show (8 : Nat) ≠ 13 by decide), B_w_cell _ _ _ (show (8 : Nat) ≠ 10 by decide), B_w_cell _ _ _ (show (8 : Nat) ≠ 12 by decide), B_w_at, B_w_cell _ _ _ (show (12 : Nat) ≠ 13 by decide), B_w_cell _ _ _ (show (12 : Nat) ≠ 10 by decide), B_w_at, B_w_cell _ _ _ (show (12 : Nat) ≠ 8 by decide), B_w_cell _ _ _ (show (10 : Nat) ≠ 13 by decide), B_w_at, B_w_cell _ _ _ (show (10 : Nat) ≠ 12 by decide), B_w_cell _ _ _ (show (10 : Nat) ≠ 8 by decide), B_w_at, B_w_cell _ _ _ (show (13 : Nat) ≠ 10 by decide), B_w_cell _ _ _ (show (13 : Nat) ≠ 12 by decide), B_w_cell _ _ _ (show (13 : Nat) ≠ 8 by decide), e42]
      by_cases q : j = k
      · subst q
        rw [if_pos rfl, if_pos rfl, if_pos rfl, if_pos rfl]
        exact ⟨rfl, rfl, rfl, rfl⟩
      · rw [if_neg q, if_neg q, if_neg q, if_neg q]
        exact i2 j (by omega))
  obtain ⟨p1, p2⟩ := this
  refine ⟨fun a h1 h2 h3 h4 h5 h6 => (p1 a h3 h4 h5 h6).trans (o1 a h1 h2), fun j hj => ?_, p2⟩
  have q5 := congrFun (p1 5 (by decide) (by decide) (by decide) (by decide)) j
  have q6 := congrFun (p1 6 (by decide) (by decide) (by decide) (by decide)) j
  exact ⟨q5.trans (o2 j hj).1, q6.trans (o2 j hj).2⟩
theorem B_lo_R {b : Nat} (R : R_c h P T K Y S) (W : R_w P T K Y S) (q : Q_c (h 42) b P T Z) : R_c (B_lo b h) P T K Y (B_mix S Z) := by
  obtain ⟨s1, s2, s3⟩ := B_lo_inv (h := h) (b := b)
  obtain ⟨hP, hT, hK, hY, c0, c1, c2, c3, c4, c5, c6, c7, c8, c9, c10⟩ := R
  obtain ⟨h6, h10, -⟩ := W
  obtain ⟨q1, q2, q4, q8, q6, q9⟩ := q
  unfold R_c
  rw [s1 3 (by decide) (by decide) (by decide) (by decide) (by decide) (by decide), s1 14 (by decide) (by decide) (by decide) (by decide) (by decide) (by decide), s1 4 (by decide) (by decide) (by decide) (by decide) (by decide) (by decide), s1 7 (by decide) (by decide) (by decide) (by decide) (by decide) (by decide), s1 9 (by decide) (by decide) (by decide) (by decide) (by decide) (by decide), s1 11 (by decide) (by decide) (by decide) (by decide) (by decide) (by decide), s1 15 (by decide) (by decide) (by decide) (by decide) (by decide) (by decide)]
  refine ⟨hP, hT, hK, hY, c0, fun p hp => ?_, fun p hp => ?_, c3, fun t ht => ?_, c5, fun t ht => ?_, c7, fun t ht => ?_, fun t ht => ?_, c10⟩
  · rw [(s2 p (by omega)).1, q1 p hp]; rfl
  · rw [(s2 p (by omega)).2, q2 p hp]; rfl
  · rw [(s3 t (by omega)).1, q4 t ht]; rfl
  · rw [(s3 t (by omega)).2.2.1, q6 t ht]; rfl
  · rw [(s3 t (by omega)).2.1, q8 t ht]; rfl
  · rw [(s3 t (by omega)).2.2.2, q9 t ht]; rfl
/-- the reference's rows are copied -/
def B_cp (h : pH) (f : Nat → Int32) (a1 off : Nat) : pH := fun a k => if a = a1 ∧ off ≤ k ∧ k < off + 52 then f (k - off) else h a k
theorem mo_lay_s {a0 a1 off : Nat} (t0 : px_tag a0 = 0) (l0 : px_len a0 = 52) (t1 : px_tag a1 = 0) (l1 : off + 52 ≤ px_len a1) (l2 : px_len a1 < 2 ^ 31) (hne : a0 ≠ a1) : mo_lay a0 a1 (nI off) h = some (0, B_cp h (h a0) a1 off) := by
  have ho0 : ∀ k, k < 52 → px_ok 0 a0 (nI k) = true := fun k hk => px_ok_a t0 l0 hk
  have ho1 : ∀ k, k < px_len a1 → px_ok 0 a1 (nI k) = true := fun k hk => px_ok_nI (t := 0) (a := a1) t1 hk l2
  unfold mo_lay
  rw [bc_0, ← nI_0]
  have e := B_loopI (fun n h k => mo_lay_2 n a0 a1 (nI off) (nI k) h) 52 (fun k h => px_w h a1 (off + k) (h a0 k)) (fun h => some (nI 0, h)) (fun _ _ => True) (fun n h k hk _ => ⟨by
    simp (disch := omega) only [mo_lay_2, ho0, ho1, bn_le, bn_lt, bn_eq, bn_le0, bn_0le, bn_lt0, bn_0lt, bn_eq0, bn_0eq, bn_eqm, bn_mlt0, bn_0lem, bn_m0, bn_mle0, bn_ltm, bn_mlt, bn_mle, bn_lem, nI_add, pk_mul, pk_sub, nI_clamp, B_n_nI, bn_0, bc_0, bc_m1, bc_1, bc_2, bc_3, bc_4, bc_5, bc_6, bc_7, bc_8, bc_9, bc_10, bc_11, bc_12, bc_13, bc_16, bc_22, bc_24, bc_32, bc_40, bc_41, bc_42, bc_43, bc_44, bc_45, bc_47, bc_48, bc_52, bc_57, bc_58, bc_59, bc_60, bc_61, bc_62, bc_63, bc_64, bc_76, bc_80, bc_97, bc_99, bc_105, bc_106, bc_107, bc_108, bc_109, bc_110, bc_111, bc_112, bc_113, bc_114, bc_115, bc_116, bc_117, bc_118, bc_119, bc_120, bc_121, bc_122, bc_255, bc_256, bc_400, bc_572, bc_999, bc_1024, bc_10000, bc_m2, bc_m3, bc_m8, bc_m100, bc_m200, B_bind, B_bind_if, B_ift, B_bz0, B_bz1, B_01_bz, B_01_e0, B_01_e1, if_pos, if_neg, reduceIte, Bool.false_eq_true, Bool.true_eq_false], trivial⟩) (fun n h _ => by
    simp (disch := omega) only [mo_lay_2, bn_le, bn_lt, bn_eq, bn_le0, bn_0le, bn_lt0, bn_0lt, bn_eq0, bn_0eq, bn_eqm, bn_mlt0, bn_0lem, bn_m0, bn_mle0, bn_ltm, bn_mlt, bn_mle, bn_lem, nI_add, pk_mul, pk_sub, nI_clamp, B_n_nI, bn_0, bc_0, bc_m1, bc_1, bc_2, bc_3, bc_4, bc_5, bc_6, bc_7, bc_8, bc_9, bc_10, bc_11, bc_12, bc_13, bc_16, bc_22, bc_24, bc_32, bc_40, bc_41, bc_42, bc_43, bc_44, bc_45, bc_47, bc_48, bc_52, bc_57, bc_58, bc_59, bc_60, bc_61, bc_62, bc_63, bc_64, bc_76, bc_80, bc_97, bc_99, bc_105, bc_106, bc_107, bc_108, bc_109, bc_110, bc_111, bc_112, bc_113, bc_114, bc_115, bc_116, bc_117, bc_118, bc_119, bc_120, bc_121, bc_122, bc_255, bc_256, bc_400, bc_572, bc_999, bc_1024, bc_10000, bc_m2, bc_m3, bc_m8, bc_m100, bc_m200, B_bind, B_bind_if, B_ift, B_bz0, B_bz1, B_01_bz, B_01_e0, B_01_e1, if_pos, if_neg, reduceIte, Bool.false_eq_true, Bool.true_eq_false]) 52 0 px_F h (by omega) (px_F_lt (by omega)) trivial
  rw [e]
  have hI := B_fold_inv (g := fun k (h : pH) => px_w h a1 (off + k) (h a0 k)) (fun k h' => ∀ a j, h' a j = if a = a1 ∧ off ≤ j ∧ j < off + k then h a0 (j - off) else h a j) 52 0 h (fun a j => by rw [if_neg (by omega)]) (fun k h' _ hk i1 => by
    intro a j
    try dsimp only
    unfold px_w
    by_cases q : a = a1 ∧ j = off + k
    · rw [if_pos q, if_pos ⟨q.1, by omega, by omega⟩, i1, if_neg (fun w => hne w.1)]
      congr 1
      omega
    · rw [if_neg q, i1]
      by_cases w : a = a1 ∧ off ≤ j ∧ j < off + k
      · rw [if_pos w, if_pos ⟨w.1, w.2.1, by omega⟩]
      · rw [if_neg w, if_neg (fun w2 => ?_)]
        by_cases jk : j = off + k
        · exact q ⟨w2.1, jk⟩
        · exact w ⟨w2.1, w2.2.1, by omega⟩)
  refine congrArg some (Prod.ext rfl ?_)
  funext a j
  exact hI a j
theorem B_cp_Q {off : Nat} (A : R_a h a P T S) (h6 : P ≤ 6) (h10 : T ≤ 10) (a1 : Nat) : Q_m (B_cp h (h a) a1 off a1) off P T S := by
  obtain ⟨x1, x2, x4, x8, x6, x9⟩ := A
  have e : ∀ k, k < 52 → B_cp h (h a) a1 off a1 (off + k) = h a k := fun k hk => by
    unfold B_cp
    rw [if_pos ⟨rfl, by omega, by omega⟩]
    congr 1
    omega
  refine ⟨fun p hp => ?_, fun p hp => ?_, fun t ht => ?_, fun t ht => ?_, fun t ht => ?_, fun t ht => ?_⟩
  · rw [e p (by omega), x1 p hp]
  · rw [Nat.add_assoc, e (6 + p) (by omega), x2 p hp]
  · rw [Nat.add_assoc, e (12 + t) (by omega), x4 t ht]
  · rw [Nat.add_assoc, e (22 + t) (by omega), x8 t ht]
  · rw [Nat.add_assoc, e (32 + t) (by omega), x6 t ht]
  · rw [Nat.add_assoc, e (42 + t) (by omega), x9 t ht]
theorem B_cp_ne {f : Nat → Int32} {a1 off b : Nat} (hb : b ≠ a1) : B_cp h f a1 off b = h b := by
  funext k
  unfold B_cp
  rw [if_neg (fun q => hb q.1)]
theorem B_cp_out {f : Nat → Int32} {a1 off k : Nat} (hk : k < off ∨ off + 52 ≤ k) : B_cp h f a1 off a1 k = h a1 k := by
  unfold B_cp
  rw [if_neg (by omega)]
/-- a copy of the row a at 0 of a row of the same length -/
theorem B_cp_A (A : R_a h a P T S) (h6 : P ≤ 6) (h10 : T ≤ 10) (a1 : Nat) : R_a (B_cp h (h a) a1 0) a1 P T S := by
  have q := B_cp_Q (off := 0) A h6 h10 a1
  unfold Q_m at q
  simp only [Nat.zero_add] at q
  exact q
end MEM
