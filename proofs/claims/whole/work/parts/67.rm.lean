/-! Layer B: the reference's readers; a: the row that holds what changes (52, 68, 70, 74, 78) -/
theorem px_ok_a {a k : Nat} (ht : px_tag a = 0) (hl : px_len a = 52) (hk : k < 52) : px_ok 0 a (nI k) = true := px_ok_nI (t := 0) (a := a) ht (by omega) (by omega)
theorem B_fold_add {α : Type} (g : Nat → α → α) : ∀ (m n k : Nat) (a : α), B_fold g k (m + n) a = B_fold g (k + m) n (B_fold g k m a) := by
  intro m
  induction m with
  | zero =>
    intro n k a
    rw [Nat.zero_add]
    rfl
  | succ m ih =>
    intro n k a
    rw [show m + 1 + n = (m + n) + 1 by omega]
    show B_fold g (k + 1) (m + n) (g k a) = B_fold g (k + (m + 1)) n (B_fold g (k + 1) m (g k a))
    rw [ih n (k + 1) (g k a), show k + 1 + m = k + (m + 1) by omega]
theorem B_fold_id {α : Type} {g : Nat → α → α} : ∀ (m k : Nat) (a : α), (∀ j, k ≤ j → j < k + m → ∀ b, g j b = b) → B_fold g k m a = a := by
  intro m
  induction m with
  | zero =>
    intro k a _
    rfl
  | succ m ih =>
    intro k a h
    show B_fold g (k + 1) m (g k a) = a
    rw [h k (Nat.le_refl _) (by omega)]
    exact ih (k + 1) a (fun j h1 h2 => h j (by omega) (by omega))
theorem S_said_bit {P T K Y : Nat} {S : pH} (W : R_w P T K Y S) {j : Nat} (hj : j < 32) : B_bit (S_said S T) j = (decide (j < T) && !decide (S 8 j = 0)) := by
  obtain ⟨h6, h10, h5, hY2, hY60, w0, w1, w2, w4, w6, w7, w8, w9, w10, w11⟩ := W
  have e : S_said S T = B_set (fun t => !decide (S 8 t = 0)) T := B_fold_eq T 0 0 (fun t _ ht b => by
    rcases w8 t (by omega) with e | e
    · simp [e]
    · have : ¬ (nI 1 = 0) := by decide
      simp [e, this])
  rw [e, B_set_bit (by omega) hj]
section RM
variable {h : pH} {P T K Y a : Nat} {S : pH}
theorem mo_areTwo_s (x y : Int32) (R : R_k h P T K Y S) (W : R_w P T K Y S) : mo_areTwo x y h = some (B_01 (B_is x P && B_is y P && !decide (x = y)), h) := by
  have hP := R.1
  have h6 := W.1
  unfold mo_areTwo
  rw [mo_isPerson_eq x hP h6, B_bind]
  cases hx : B_is x P with
  | false => simp only [mo_areTwo_25, mo_areTwo_26, B_01_f, bc_0, bc_m1, bc_1, bc_2, bc_3, bc_4, bc_5, bc_6, bc_7, bc_8, bc_9, bc_10, bc_11, bc_12, bc_13, bc_16, bc_22, bc_24, bc_32, bc_40, bc_41, bc_42, bc_43, bc_44, bc_45, bc_47, bc_48, bc_52, bc_57, bc_58, bc_59, bc_60, bc_61, bc_62, bc_63, bc_64, bc_76, bc_80, bc_97, bc_99, bc_105, bc_106, bc_107, bc_108, bc_109, bc_110, bc_111, bc_112, bc_113, bc_114, bc_115, bc_116, bc_117, bc_118, bc_119, bc_120, bc_121, bc_122, bc_255, bc_256, bc_400, bc_572, bc_999, bc_1024, bc_10000, bc_m2, bc_m3, bc_m8, bc_m100, bc_m200, B_bind, B_bind_if, B_ift, B_bz0, B_bz1, B_01_bz, B_01_e0, B_01_e1, if_pos, if_neg, reduceIte, Bool.false_eq_true, Bool.true_eq_false, Bool.false_and]
  | true =>
    simp only [mo_isPerson_eq y hP h6, B_bind, B_bind_if, B_ift, B_bz0, B_bz1, B_01_bz, B_01_e0, B_01_e1, if_pos, if_neg, reduceIte, Bool.false_eq_true, Bool.true_eq_false]
    cases hy : B_is y P with
    | false => simp only [mo_areTwo_25, mo_areTwo_26, B_01_f, B_01_t, bc_0, bc_m1, bc_1, bc_2, bc_3, bc_4, bc_5, bc_6, bc_7, bc_8, bc_9, bc_10, bc_11, bc_12, bc_13, bc_16, bc_22, bc_24, bc_32, bc_40, bc_41, bc_42, bc_43, bc_44, bc_45, bc_47, bc_48, bc_52, bc_57, bc_58, bc_59, bc_60, bc_61, bc_62, bc_63, bc_64, bc_76, bc_80, bc_97, bc_99, bc_105, bc_106, bc_107, bc_108, bc_109, bc_110, bc_111, bc_112, bc_113, bc_114, bc_115, bc_116, bc_117, bc_118, bc_119, bc_120, bc_121, bc_122, bc_255, bc_256, bc_400, bc_572, bc_999, bc_1024, bc_10000, bc_m2, bc_m3, bc_m8, bc_m100, bc_m200, B_bind, B_bind_if, B_ift, B_bz0, B_bz1, B_01_bz, B_01_e0, B_01_e1, if_pos, if_neg, reduceIte, Bool.false_eq_true, Bool.true_eq_false, Bool.false_and, Bool.true_and]
    | true =>
      by_cases hd : x = y <;> simp [mo_areTwo_25, mo_areTwo_26, hd, B_01, nI, px_bz, B_ift, bc_0, bc_m1, bc_1, bc_2, bc_3, bc_4, bc_5, bc_6, bc_7, bc_8, bc_9, bc_10, bc_11, bc_12, bc_13, bc_16, bc_22, bc_24, bc_32, bc_40, bc_41, bc_42, bc_43, bc_44, bc_45, bc_47, bc_48, bc_52, bc_57, bc_58, bc_59, bc_60, bc_61, bc_62, bc_63, bc_64, bc_76, bc_80, bc_97, bc_99, bc_105, bc_106, bc_107, bc_108, bc_109, bc_110, bc_111, bc_112, bc_113, bc_114, bc_115, bc_116, bc_117, bc_118, bc_119, bc_120, bc_121, bc_122, bc_255, bc_256, bc_400, bc_572, bc_999, bc_1024, bc_10000, bc_m2, bc_m3, bc_m8, bc_m100, bc_m200]
theorem mo_peopleAt_s (w : Int32) (R : R_m h P T K Y S) (W : R_w P T K Y S) : mo_peopleAt w h = some (S_at S P w, h) := by
  obtain ⟨⟨mP, mT, mK, mY, m0, m3, m5, m7, m10⟩, ⟨a1, a2, a4, a8, a6, a9⟩⟩ := R
  obtain ⟨h6, h10, h5, -⟩ := W
  unfold mo_peopleAt
  rw [pc_0, ← nI_0]
  refine B_loop0 (fun n a k => mo_peopleAt_4 n w a (nI k) h) P _ (fun a => some (a, h)) (by omega) (fun n a k hk => ?_) (fun n a => ?_) _
  · simp (disch := omega) only [mo_peopleAt_4, mo_peopleAt_30, mP, a1, bn_le, bn_lt, bn_eq, bn_le0, bn_0le, bn_lt0, bn_0lt, bn_eq0, bn_0eq, bn_eqm, bn_mlt0, bn_0lem, bn_m0, bn_mle0, bn_ltm, bn_mlt, bn_mle, bn_lem, nI_add, pk_mul, pk_sub, nI_clamp, B_n_nI, bn_0, bc_0, bc_m1, bc_1, bc_2, bc_3, bc_4, bc_5, bc_6, bc_7, bc_8, bc_9, bc_10, bc_11, bc_12, bc_13, bc_16, bc_22, bc_24, bc_32, bc_40, bc_41, bc_42, bc_43, bc_44, bc_45, bc_47, bc_48, bc_52, bc_57, bc_58, bc_59, bc_60, bc_61, bc_62, bc_63, bc_64, bc_76, bc_80, bc_97, bc_99, bc_105, bc_106, bc_107, bc_108, bc_109, bc_110, bc_111, bc_112, bc_113, bc_114, bc_115, bc_116, bc_117, bc_118, bc_119, bc_120, bc_121, bc_122, bc_255, bc_256, bc_400, bc_572, bc_999, bc_1024, bc_10000, bc_m2, bc_m3, bc_m8, bc_m100, bc_m200, B_bind, B_bind_if, B_ift, B_bz0, B_bz1, B_01_bz, B_01_e0, B_01_e1, if_pos, if_neg, reduceIte, Bool.false_eq_true, Bool.true_eq_false, po_52, pz_52, po_53, pz_53, po_54, pz_54, po_55, pz_55, po_56, pz_56, po_57, pz_57, po_58, pz_58, po_59, pz_59, po_60, pz_60, po_61, pz_61, po_62, pz_62, po_63, pz_63, po_64, pz_64, po_65, pz_65, po_66, pz_66, po_67, pz_67, po_68, pz_68, po_69, pz_69, po_70, pz_70, po_71, pz_71, po_72, pz_72, po_73, pz_73, po_74, pz_74, po_75, pz_75, po_76, pz_76, po_77, pz_77, po_78, pz_78, po_79, pz_79, po_80, pz_80, po_81, pz_81]
    by_cases hc : S 1 k = w
    · simp [hc]
    · simp [hc]
  · simp (disch := omega) only [mo_peopleAt_4, mP, bn_le, bn_lt, bn_eq, bn_le0, bn_0le, bn_lt0, bn_0lt, bn_eq0, bn_0eq, bn_eqm, bn_mlt0, bn_0lem, bn_m0, bn_mle0, bn_ltm, bn_mlt, bn_mle, bn_lem, nI_add, pk_mul, pk_sub, nI_clamp, B_n_nI, bn_0, bc_0, bc_m1, bc_1, bc_2, bc_3, bc_4, bc_5, bc_6, bc_7, bc_8, bc_9, bc_10, bc_11, bc_12, bc_13, bc_16, bc_22, bc_24, bc_32, bc_40, bc_41, bc_42, bc_43, bc_44, bc_45, bc_47, bc_48, bc_52, bc_57, bc_58, bc_59, bc_60, bc_61, bc_62, bc_63, bc_64, bc_76, bc_80, bc_97, bc_99, bc_105, bc_106, bc_107, bc_108, bc_109, bc_110, bc_111, bc_112, bc_113, bc_114, bc_115, bc_116, bc_117, bc_118, bc_119, bc_120, bc_121, bc_122, bc_255, bc_256, bc_400, bc_572, bc_999, bc_1024, bc_10000, bc_m2, bc_m3, bc_m8, bc_m100, bc_m200, B_bind, B_bind_if, B_ift, B_bz0, B_bz1, B_01_bz, B_01_e0, B_01_e1, if_pos, if_neg, reduceIte, Bool.false_eq_true, Bool.true_eq_false]
theorem mo_thingsOf_s {p : Nat} (hp : p < 32) (ht : px_tag a = 0) (hl : px_len a = 52) (R : R_k h P T K Y S) (A : R_a h a P T S) (W : R_w P T K Y S) : mo_thingsOf a (nI p) h = some (S_of S T (nI 1 <<< (nI p &&& 31)), h) := by
  obtain ⟨mP, mT, mK, mY, m0, m3, m5, m7, m10⟩ := R
  obtain ⟨a1, a2, a4, a8, a6, a9⟩ := A
  obtain ⟨h6, h10, h5, hY2, hY60, w0, w1, w2, w4, w6, w7, w8, w9, w10, w11⟩ := W
  have hoA : ∀ k, k < 52 → px_ok 0 a (nI k) = true := fun k hk => px_ok_a ht hl hk
  unfold mo_thingsOf
  rw [pc_0, ← nI_0]
  refine B_loop0 (fun n b k => mo_thingsOf_5 n a (nI p) b (nI k) h) T _ (fun b => some (b, h)) (by omega) (fun n b k hk => ?_) (fun n b => ?_) _
  · obtain ⟨v, hv, e⟩ := w6 k hk
    simp (disch := omega) only [mo_thingsOf_5, mo_thingsOf_34, mT, a6, e, hoA, B_bit_sh, bn_le, bn_lt, bn_eq, bn_le0, bn_0le, bn_lt0, bn_0lt, bn_eq0, bn_0eq, bn_eqm, bn_mlt0, bn_0lem, bn_m0, bn_mle0, bn_ltm, bn_mlt, bn_mle, bn_lem, nI_add, pk_mul, pk_sub, nI_clamp, B_n_nI, bn_0, bc_0, bc_m1, bc_1, bc_2, bc_3, bc_4, bc_5, bc_6, bc_7, bc_8, bc_9, bc_10, bc_11, bc_12, bc_13, bc_16, bc_22, bc_24, bc_32, bc_40, bc_41, bc_42, bc_43, bc_44, bc_45, bc_47, bc_48, bc_52, bc_57, bc_58, bc_59, bc_60, bc_61, bc_62, bc_63, bc_64, bc_76, bc_80, bc_97, bc_99, bc_105, bc_106, bc_107, bc_108, bc_109, bc_110, bc_111, bc_112, bc_113, bc_114, bc_115, bc_116, bc_117, bc_118, bc_119, bc_120, bc_121, bc_122, bc_255, bc_256, bc_400, bc_572, bc_999, bc_1024, bc_10000, bc_m2, bc_m3, bc_m8, bc_m100, bc_m200, B_bind, B_bind_if, B_ift, B_bz0, B_bz1, B_01_bz, B_01_e0, B_01_e1, if_pos, if_neg, reduceIte, Bool.false_eq_true, Bool.true_eq_false]
    by_cases hc : v = p
    · simp [hc]
    · simp [hc]
  · simp (disch := omega) only [mo_thingsOf_5, mT, bn_le, bn_lt, bn_eq, bn_le0, bn_0le, bn_lt0, bn_0lt, bn_eq0, bn_0eq, bn_eqm, bn_mlt0, bn_0lem, bn_m0, bn_mle0, bn_ltm, bn_mlt, bn_mle, bn_lem, nI_add, pk_mul, pk_sub, nI_clamp, B_n_nI, bn_0, bc_0, bc_m1, bc_1, bc_2, bc_3, bc_4, bc_5, bc_6, bc_7, bc_8, bc_9, bc_10, bc_11, bc_12, bc_13, bc_16, bc_22, bc_24, bc_32, bc_40, bc_41, bc_42, bc_43, bc_44, bc_45, bc_47, bc_48, bc_52, bc_57, bc_58, bc_59, bc_60, bc_61, bc_62, bc_63, bc_64, bc_76, bc_80, bc_97, bc_99, bc_105, bc_106, bc_107, bc_108, bc_109, bc_110, bc_111, bc_112, bc_113, bc_114, bc_115, bc_116, bc_117, bc_118, bc_119, bc_120, bc_121, bc_122, bc_255, bc_256, bc_400, bc_572, bc_999, bc_1024, bc_10000, bc_m2, bc_m3, bc_m8, bc_m100, bc_m200, B_bind, B_bind_if, B_ift, B_bz0, B_bz1, B_01_bz, B_01_e0, B_01_e1, if_pos, if_neg, reduceIte, Bool.false_eq_true, Bool.true_eq_false]
theorem mo_knownBy_s {p : Nat} (hp : p < 32) (R : R_m h P T K Y S) (W : R_w P T K Y S) : mo_knownBy (nI p) h = some (S_kby S T p, h) := by
  obtain ⟨⟨mP, mT, mK, mY, m0, m3, m5, m7, m10⟩, ⟨a1, a2, a4, a8, a6, a9⟩⟩ := R
  obtain ⟨h6, h10, h5, -⟩ := W
  unfold mo_knownBy
  rw [pc_0, ← nI_0]
  refine B_loop0 (fun n a k => mo_knownBy_4 n (nI p) a (nI k) h) T _ (fun a => some (a, h)) (by omega) (fun n a k hk => ?_) (fun n a => ?_) _
  · simp (disch := omega) only [mo_knownBy_4, mo_knownBy_36, mT, a9, mo_has_eq, bn_le, bn_lt, bn_eq, bn_le0, bn_0le, bn_lt0, bn_0lt, bn_eq0, bn_0eq, bn_eqm, bn_mlt0, bn_0lem, bn_m0, bn_mle0, bn_ltm, bn_mlt, bn_mle, bn_lem, nI_add, pk_mul, pk_sub, nI_clamp, B_n_nI, bn_0, bc_0, bc_m1, bc_1, bc_2, bc_3, bc_4, bc_5, bc_6, bc_7, bc_8, bc_9, bc_10, bc_11, bc_12, bc_13, bc_16, bc_22, bc_24, bc_32, bc_40, bc_41, bc_42, bc_43, bc_44, bc_45, bc_47, bc_48, bc_52, bc_57, bc_58, bc_59, bc_60, bc_61, bc_62, bc_63, bc_64, bc_76, bc_80, bc_97, bc_99, bc_105, bc_106, bc_107, bc_108, bc_109, bc_110, bc_111, bc_112, bc_113, bc_114, bc_115, bc_116, bc_117, bc_118, bc_119, bc_120, bc_121, bc_122, bc_255, bc_256, bc_400, bc_572, bc_999, bc_1024, bc_10000, bc_m2, bc_m3, bc_m8, bc_m100, bc_m200, B_bind, B_bind_if, B_ift, B_bz0, B_bz1, B_01_bz, B_01_e0, B_01_e1, if_pos, if_neg, reduceIte, Bool.false_eq_true, Bool.true_eq_false, po_52, pz_52, po_53, pz_53, po_54, pz_54, po_55, pz_55, po_56, pz_56, po_57, pz_57, po_58, pz_58, po_59, pz_59, po_60, pz_60, po_61, pz_61, po_62, pz_62, po_63, pz_63, po_64, pz_64, po_65, pz_65, po_66, pz_66, po_67, pz_67, po_68, pz_68, po_69, pz_69, po_70, pz_70, po_71, pz_71, po_72, pz_72, po_73, pz_73, po_74, pz_74, po_75, pz_75, po_76, pz_76, po_77, pz_77, po_78, pz_78, po_79, pz_79, po_80, pz_80, po_81, pz_81]
    by_cases hc : B_bit (S 9 k) p = true
    · simp [hc, nI]
    · simp [hc]
  · simp (disch := omega) only [mo_knownBy_4, mT, bn_le, bn_lt, bn_eq, bn_le0, bn_0le, bn_lt0, bn_0lt, bn_eq0, bn_0eq, bn_eqm, bn_mlt0, bn_0lem, bn_m0, bn_mle0, bn_ltm, bn_mlt, bn_mle, bn_lem, nI_add, pk_mul, pk_sub, nI_clamp, B_n_nI, bn_0, bc_0, bc_m1, bc_1, bc_2, bc_3, bc_4, bc_5, bc_6, bc_7, bc_8, bc_9, bc_10, bc_11, bc_12, bc_13, bc_16, bc_22, bc_24, bc_32, bc_40, bc_41, bc_42, bc_43, bc_44, bc_45, bc_47, bc_48, bc_52, bc_57, bc_58, bc_59, bc_60, bc_61, bc_62, bc_63, bc_64, bc_76, bc_80, bc_97, bc_99, bc_105, bc_106, bc_107, bc_108, bc_109, bc_110, bc_111, bc_112, bc_113, bc_114, bc_115, bc_116, bc_117, bc_118, bc_119, bc_120, bc_121, bc_122, bc_255, bc_256, bc_400, bc_572, bc_999, bc_1024, bc_10000, bc_m2, bc_m3, bc_m8, bc_m100, bc_m200, B_bind, B_bind_if, B_ift, B_bz0, B_bz1, B_01_bz, B_01_e0, B_01_e1, if_pos, if_neg, reduceIte, Bool.false_eq_true, Bool.true_eq_false]
theorem mo_saidOnes_s (ht : px_tag a = 0) (hl : px_len a = 52) (R : R_k h P T K Y S) (A : R_a h a P T S) (W : R_w P T K Y S) : mo_saidOnes a h = some (S_said S T, h) := by
  obtain ⟨mP, mT, mK, mY, m0, m3, m5, m7, m10⟩ := R
  obtain ⟨a1, a2, a4, a8, a6, a9⟩ := A
  obtain ⟨h6, h10, h5, -⟩ := W
  have hoA : ∀ k, k < 52 → px_ok 0 a (nI k) = true := fun k hk => px_ok_a ht hl hk
  unfold mo_saidOnes
  rw [pc_0, ← nI_0]
  refine B_loop0 (fun n b k => mo_saidOnes_4 n a b (nI k) h) T _ (fun b => some (b, h)) (by omega) (fun n b k hk => ?_) (fun n b => ?_) _
  · simp (disch := omega) only [mo_saidOnes_4, mT, a8, hoA, bn_le, bn_lt, bn_eq, bn_le0, bn_0le, bn_lt0, bn_0lt, bn_eq0, bn_0eq, bn_eqm, bn_mlt0, bn_0lem, bn_m0, bn_mle0, bn_ltm, bn_mlt, bn_mle, bn_lem, nI_add, pk_mul, pk_sub, nI_clamp, B_n_nI, bn_0, bc_0, bc_m1, bc_1, bc_2, bc_3, bc_4, bc_5, bc_6, bc_7, bc_8, bc_9, bc_10, bc_11, bc_12, bc_13, bc_16, bc_22, bc_24, bc_32, bc_40, bc_41, bc_42, bc_43, bc_44, bc_45, bc_47, bc_48, bc_52, bc_57, bc_58, bc_59, bc_60, bc_61, bc_62, bc_63, bc_64, bc_76, bc_80, bc_97, bc_99, bc_105, bc_106, bc_107, bc_108, bc_109, bc_110, bc_111, bc_112, bc_113, bc_114, bc_115, bc_116, bc_117, bc_118, bc_119, bc_120, bc_121, bc_122, bc_255, bc_256, bc_400, bc_572, bc_999, bc_1024, bc_10000, bc_m2, bc_m3, bc_m8, bc_m100, bc_m200, B_bind, B_bind_if, B_ift, B_bz0, B_bz1, B_01_bz, B_01_e0, B_01_e1, if_pos, if_neg, reduceIte, Bool.false_eq_true, Bool.true_eq_false]
  · simp (disch := omega) only [mo_saidOnes_4, mT, bn_le, bn_lt, bn_eq, bn_le0, bn_0le, bn_lt0, bn_0lt, bn_eq0, bn_0eq, bn_eqm, bn_mlt0, bn_0lem, bn_m0, bn_mle0, bn_ltm, bn_mlt, bn_mle, bn_lem, nI_add, pk_mul, pk_sub, nI_clamp, B_n_nI, bn_0, bc_0, bc_m1, bc_1, bc_2, bc_3, bc_4, bc_5, bc_6, bc_7, bc_8, bc_9, bc_10, bc_11, bc_12, bc_13, bc_16, bc_22, bc_24, bc_32, bc_40, bc_41, bc_42, bc_43, bc_44, bc_45, bc_47, bc_48, bc_52, bc_57, bc_58, bc_59, bc_60, bc_61, bc_62, bc_63, bc_64, bc_76, bc_80, bc_97, bc_99, bc_105, bc_106, bc_107, bc_108, bc_109, bc_110, bc_111, bc_112, bc_113, bc_114, bc_115, bc_116, bc_117, bc_118, bc_119, bc_120, bc_121, bc_122, bc_255, bc_256, bc_400, bc_572, bc_999, bc_1024, bc_10000, bc_m2, bc_m3, bc_m8, bc_m100, bc_m200, B_bind, B_bind_if, B_ift, B_bz0, B_bz1, B_01_bz, B_01_e0, B_01_e1, if_pos, if_neg, reduceIte, Bool.false_eq_true, Bool.true_eq_false]
theorem mo_leftIn_s {set : Int32} (hs : ∀ k, T ≤ k → k < 10 → B_bit set k = false) (ht : px_tag a = 0) (hl : px_len a = 52) (R : R_k h P T K Y S) (A : R_a h a P T S) (W : R_w P T K Y S) : mo_leftIn a set h = some (S_left S T set, h) := by
  obtain ⟨mP, mT, mK, mY, m0, m3, m5, m7, m10⟩ := R
  obtain ⟨a1, a2, a4, a8, a6, a9⟩ := A
  obtain ⟨h6, h10, h5, -⟩ := W
  have hoA : ∀ k, k < 52 → px_ok 0 a (nI k) = true := fun k hk => px_ok_a ht hl hk
  have e9 : S_left S T set = B_fold (fun t b => b + (if B_bit set t = true then S 4 t else 0)) 0 10 0 := by
    have e8 := B_fold_add (fun t b => b + (if B_bit set t = true then S 4 t else 0)) T (10 - T) 0 (0 : Int32)
    rw [show T + (10 - T) = 10 by omega] at e8
    rw [e8]
    refine (B_fold_id (10 - T) _ _ (fun j h1 h2 b => ?_)).symm
    simp [hs j (by omega) (by omega)]
  unfold mo_leftIn
  rw [e9, pc_0, ← nI_0]
  refine B_loop0 (fun n b k => mo_leftIn_4 n a set b (nI k) h) 10 _ (fun b => some (b, h)) (by omega) (fun n b k hk => ?_) (fun n b => ?_) _
  · simp (disch := omega) only [mo_leftIn_4, mo_leftIn_29, mo_has_eq, bn_le, bn_lt, bn_eq, bn_le0, bn_0le, bn_lt0, bn_0lt, bn_eq0, bn_0eq, bn_eqm, bn_mlt0, bn_0lem, bn_m0, bn_mle0, bn_ltm, bn_mlt, bn_mle, bn_lem, nI_add, pk_mul, pk_sub, nI_clamp, B_n_nI, bn_0, bc_0, bc_m1, bc_1, bc_2, bc_3, bc_4, bc_5, bc_6, bc_7, bc_8, bc_9, bc_10, bc_11, bc_12, bc_13, bc_16, bc_22, bc_24, bc_32, bc_40, bc_41, bc_42, bc_43, bc_44, bc_45, bc_47, bc_48, bc_52, bc_57, bc_58, bc_59, bc_60, bc_61, bc_62, bc_63, bc_64, bc_76, bc_80, bc_97, bc_99, bc_105, bc_106, bc_107, bc_108, bc_109, bc_110, bc_111, bc_112, bc_113, bc_114, bc_115, bc_116, bc_117, bc_118, bc_119, bc_120, bc_121, bc_122, bc_255, bc_256, bc_400, bc_572, bc_999, bc_1024, bc_10000, bc_m2, bc_m3, bc_m8, bc_m100, bc_m200, B_bind, B_bind_if, B_ift, B_bz0, B_bz1, B_01_bz, B_01_e0, B_01_e1, if_pos, if_neg, reduceIte, Bool.false_eq_true, Bool.true_eq_false]
    by_cases hc : B_bit set k = true
    · have hk2 : k < T := by
        by_cases hq : k < T
        · exact hq
        · rw [hs k (by omega) hk] at hc
          cases hc
      simp (disch := omega) only [hc, hoA, a4, bn_le, bn_lt, bn_eq, bn_le0, bn_0le, bn_lt0, bn_0lt, bn_eq0, bn_0eq, bn_eqm, bn_mlt0, bn_0lem, bn_m0, bn_mle0, bn_ltm, bn_mlt, bn_mle, bn_lem, nI_add, pk_mul, pk_sub, nI_clamp, B_n_nI, bn_0, B_bind, B_bind_if, B_ift, B_bz0, B_bz1, B_01_bz, B_01_e0, B_01_e1, if_pos, if_neg, reduceIte, Bool.false_eq_true, Bool.true_eq_false, B_ift]
      simp [nI]
    · simp [hc]
  · simp (disch := omega) only [mo_leftIn_4, bn_le, bn_lt, bn_eq, bn_le0, bn_0le, bn_lt0, bn_0lt, bn_eq0, bn_0eq, bn_eqm, bn_mlt0, bn_0lem, bn_m0, bn_mle0, bn_ltm, bn_mlt, bn_mle, bn_lem, nI_add, pk_mul, pk_sub, nI_clamp, B_n_nI, bn_0, bc_0, bc_m1, bc_1, bc_2, bc_3, bc_4, bc_5, bc_6, bc_7, bc_8, bc_9, bc_10, bc_11, bc_12, bc_13, bc_16, bc_22, bc_24, bc_32, bc_40, bc_41, bc_42, bc_43, bc_44, bc_45, bc_47, bc_48, bc_52, bc_57, bc_58, bc_59, bc_60, bc_61, bc_62, bc_63, bc_64, bc_76, bc_80, bc_97, bc_99, bc_105, bc_106, bc_107, bc_108, bc_109, bc_110, bc_111, bc_112, bc_113, bc_114, bc_115, bc_116, bc_117, bc_118, bc_119, bc_120, bc_121, bc_122, bc_255, bc_256, bc_400, bc_572, bc_999, bc_1024, bc_10000, bc_m2, bc_m3, bc_m8, bc_m100, bc_m200, B_bind, B_bind_if, B_ift, B_bz0, B_bz1, B_01_bz, B_01_e0, B_01_e1, if_pos, if_neg, reduceIte, Bool.false_eq_true, Bool.true_eq_false]
theorem mo_unsaid_s {p : Nat} (hp : p < 32) (ht : px_tag a = 0) (hl : px_len a = 52) (R : R_k h P T K Y S) (A : R_a h a P T S) (W : R_w P T K Y S) : mo_unsaid a (nI p) h = some (S_uns S T (nI 1 <<< (nI p &&& 31)), h) := by
  have h10 := W.2.1
  unfold mo_unsaid
  rw [mo_thingsOf_s hp ht hl R A W, B_bind, mo_saidOnes_s ht hl R A W, B_bind, pc_m1]
  refine congrArg some (Prod.ext (B_ext fun k hk => ?_) rfl)
  show B_bit (S_of S T _ &&& (S_said S T ^^^ -1)) k = B_bit (S_uns S T _) k
  rw [B_bit_and, B_bit_not _ hk, S_said_bit W hk]
  unfold S_of S_uns
  rw [B_set_bit (by omega) hk, B_set_bit (by omega) hk]
  by_cases h1 : k < T <;> by_cases h2 : S 8 k = 0 <;> simp [h1, h2]
theorem mo_isBank_eq (x : Int32) : mo_isBank x h = some (B_01 (B_is x 2), h) := by
  unfold mo_isBank
  have e := mo_in0_eq (h := h) x (y := nI 2) rfl (by omega : 2 < 2 ^ 30)
  have e1 : nI 2 - px_c 1 = px_c 1 := by rw [bc_1]; rfl
  rw [e1] at e
  rw [e, B_bind, B_01_bz]
theorem B_is_2a (x : Int32) : B_is x 2 = (decide (x = 0) || decide (x = nI 1)) := by
  unfold B_is
  by_cases h0 : x = 0
  · subst h0
    rfl
  · by_cases h1 : x = nI 1
    · subst h1
      rfl
    · rw [decide_eq_false h0, decide_eq_false h1]
      refine decide_eq_false (fun hq => ?_)
      have : x.toInt = 0 ∨ x.toInt = 1 := by omega
      rcases this with e | e
      · exact h0 (Int32.toInt_inj.mp (by rw [e]; rfl))
      · exact h1 (Int32.toInt_inj.mp (by rw [e]; rfl))
theorem mo_refusesSay_s (x y : Int32) (R : R_m h P T K Y S) (W : R_w P T K Y S) : mo_refusesSay x y h = some (S_nsay S P T x y, h) := by
  obtain ⟨⟨mP, mT, mK, mY, m0, m3, m5, m7, m10⟩, ⟨a1, a2, a4, a8, a6, a9⟩⟩ := R
  obtain ⟨h6, h10, h5, hY2, hY60, w0, w1, w2, w4, w6, w7, w8, w9, w10, w11⟩ := W
  unfold mo_refusesSay S_nsay
  rw [mo_isPerson_eq x mP h6, B_bind]
  cases hx : B_is x P with
  | false => simp only [mo_refusesSay_29, B_01_f, bc_0, bc_m1, bc_1, bc_2, bc_3, bc_4, bc_5, bc_6, bc_7, bc_8, bc_9, bc_10, bc_11, bc_12, bc_13, bc_16, bc_22, bc_24, bc_32, bc_40, bc_41, bc_42, bc_43, bc_44, bc_45, bc_47, bc_48, bc_52, bc_57, bc_58, bc_59, bc_60, bc_61, bc_62, bc_63, bc_64, bc_76, bc_80, bc_97, bc_99, bc_105, bc_106, bc_107, bc_108, bc_109, bc_110, bc_111, bc_112, bc_113, bc_114, bc_115, bc_116, bc_117, bc_118, bc_119, bc_120, bc_121, bc_122, bc_255, bc_256, bc_400, bc_572, bc_999, bc_1024, bc_10000, bc_m2, bc_m3, bc_m8, bc_m100, bc_m200, B_bind, B_bind_if, B_ift, B_bz0, B_bz1, B_01_bz, B_01_e0, B_01_e1, if_pos, if_neg, reduceIte, Bool.false_eq_true, Bool.true_eq_false, Bool.false_and]
  | true =>
    simp only [mo_isThing_eq y mT h10, B_bind, B_bind_if, B_ift, B_bz0, B_bz1, B_01_bz, B_01_e0, B_01_e1, if_pos, if_neg, reduceIte, Bool.false_eq_true, Bool.true_eq_false]
    cases hy : B_is y T with
    | false => simp only [mo_refusesSay_29, B_01_f, B_01_t, bc_0, bc_m1, bc_1, bc_2, bc_3, bc_4, bc_5, bc_6, bc_7, bc_8, bc_9, bc_10, bc_11, bc_12, bc_13, bc_16, bc_22, bc_24, bc_32, bc_40, bc_41, bc_42, bc_43, bc_44, bc_45, bc_47, bc_48, bc_52, bc_57, bc_58, bc_59, bc_60, bc_61, bc_62, bc_63, bc_64, bc_76, bc_80, bc_97, bc_99, bc_105, bc_106, bc_107, bc_108, bc_109, bc_110, bc_111, bc_112, bc_113, bc_114, bc_115, bc_116, bc_117, bc_118, bc_119, bc_120, bc_121, bc_122, bc_255, bc_256, bc_400, bc_572, bc_999, bc_1024, bc_10000, bc_m2, bc_m3, bc_m8, bc_m100, bc_m200, B_bind, B_bind_if, B_ift, B_bz0, B_bz1, B_01_bz, B_01_e0, B_01_e1, if_pos, if_neg, reduceIte, Bool.false_eq_true, Bool.true_eq_false, Bool.false_and, Bool.true_and, Bool.and_false]
    | true =>
      obtain ⟨p, hp, rfl⟩ := B_is_ex hx (by omega)
      obtain ⟨k, hk, rfl⟩ := B_is_ex hy (by omega)
      simp (disch := omega) only [mo_refusesSay_29, mo_refusesSay_82, mo_refusesSay_83, a6, a8, m7, B_01_t, bn_le, bn_lt, bn_eq, bn_le0, bn_0le, bn_lt0, bn_0lt, bn_eq0, bn_0eq, bn_eqm, bn_mlt0, bn_0lem, bn_m0, bn_mle0, bn_ltm, bn_mlt, bn_mle, bn_lem, nI_add, pk_mul, pk_sub, nI_clamp, B_n_nI, bn_0, bc_0, bc_m1, bc_1, bc_2, bc_3, bc_4, bc_5, bc_6, bc_7, bc_8, bc_9, bc_10, bc_11, bc_12, bc_13, bc_16, bc_22, bc_24, bc_32, bc_40, bc_41, bc_42, bc_43, bc_44, bc_45, bc_47, bc_48, bc_52, bc_57, bc_58, bc_59, bc_60, bc_61, bc_62, bc_63, bc_64, bc_76, bc_80, bc_97, bc_99, bc_105, bc_106, bc_107, bc_108, bc_109, bc_110, bc_111, bc_112, bc_113, bc_114, bc_115, bc_116, bc_117, bc_118, bc_119, bc_120, bc_121, bc_122, bc_255, bc_256, bc_400, bc_572, bc_999, bc_1024, bc_10000, bc_m2, bc_m3, bc_m8, bc_m100, bc_m200, B_bind, B_bind_if, B_ift, B_bz0, B_bz1, B_01_bz, B_01_e0, B_01_e1, if_pos, if_neg, reduceIte, Bool.false_eq_true, Bool.true_eq_false, po_52, pz_52, po_53, pz_53, po_54, pz_54, po_55, pz_55, po_56, pz_56, po_57, pz_57, po_58, pz_58, po_59, pz_59, po_60, pz_60, po_61, pz_61, po_62, pz_62, po_63, pz_63, po_64, pz_64, po_65, pz_65, po_66, pz_66, po_67, pz_67, po_68, pz_68, po_69, pz_69, po_70, pz_70, po_71, pz_71, po_72, pz_72, po_73, pz_73, po_74, pz_74, po_75, pz_75, po_76, pz_76, po_77, pz_77, po_78, pz_78, po_79, pz_79, po_80, pz_80, po_81, pz_81, Bool.true_and, decide_eq_true_eq]
      by_cases q6 : S 6 k = nI p
      · by_cases q8 : S 8 k = nI 1
        · simp [q6, q8]
        · rcases w7 k hk with e | ⟨v, hv, e⟩
          · simp [q6, q8, e]
          · simp (disch := omega) only [q6, q8, e, a1, bn_le, bn_lt, bn_eq, bn_le0, bn_0le, bn_lt0, bn_0lt, bn_eq0, bn_0eq, bn_eqm, bn_mlt0, bn_0lem, bn_m0, bn_mle0, bn_ltm, bn_mlt, bn_mle, bn_lem, nI_add, pk_mul, pk_sub, nI_clamp, B_n_nI, bn_0, B_bind, B_bind_if, B_ift, B_bz0, B_bz1, B_01_bz, B_01_e0, B_01_e1, if_pos, if_neg, reduceIte, Bool.false_eq_true, Bool.true_eq_false, po_52, pz_52, po_53, pz_53, po_54, pz_54, po_55, pz_55, po_56, pz_56, po_57, pz_57, po_58, pz_58, po_59, pz_59, po_60, pz_60, po_61, pz_61, po_62, pz_62, po_63, pz_63, po_64, pz_64, po_65, pz_65, po_66, pz_66, po_67, pz_67, po_68, pz_68, po_69, pz_69, po_70, pz_70, po_71, pz_71, po_72, pz_72, po_73, pz_73, po_74, pz_74, po_75, pz_75, po_76, pz_76, po_77, pz_77, po_78, pz_78, po_79, pz_79, po_80, pz_80, po_81, pz_81]
            split <;> rfl
      · simp [q6]
theorem mo_priceOf_s {t : Nat} (ht : t < T) (R : R_m h P T K Y S) (W : R_w P T K Y S) : mo_priceOf (nI t) h = some (S_price S t, h) := by
  obtain ⟨⟨mP, mT, mK, mY, m0, m3, m5, m7, m10⟩, ⟨a1, a2, a4, a8, a6, a9⟩⟩ := R
  obtain ⟨h6, h10, h5, hY2, hY60, w0, w1, w2, w4, w6, w7, w8, w9, w10, w11⟩ := W
  obtain ⟨v, hv, e⟩ := w4 t ht
  unfold mo_priceOf S_price
  simp (disch := omega) only [a4, e, bn_le, bn_lt, bn_eq, bn_le0, bn_0le, bn_lt0, bn_0lt, bn_eq0, bn_0eq, bn_eqm, bn_mlt0, bn_0lem, bn_m0, bn_mle0, bn_ltm, bn_mlt, bn_mle, bn_lem, nI_add, pk_mul, pk_sub, nI_clamp, B_n_nI, bn_0, bc_0, bc_m1, bc_1, bc_2, bc_3, bc_4, bc_5, bc_6, bc_7, bc_8, bc_9, bc_10, bc_11, bc_12, bc_13, bc_16, bc_22, bc_24, bc_32, bc_40, bc_41, bc_42, bc_43, bc_44, bc_45, bc_47, bc_48, bc_52, bc_57, bc_58, bc_59, bc_60, bc_61, bc_62, bc_63, bc_64, bc_76, bc_80, bc_97, bc_99, bc_105, bc_106, bc_107, bc_108, bc_109, bc_110, bc_111, bc_112, bc_113, bc_114, bc_115, bc_116, bc_117, bc_118, bc_119, bc_120, bc_121, bc_122, bc_255, bc_256, bc_400, bc_572, bc_999, bc_1024, bc_10000, bc_m2, bc_m3, bc_m8, bc_m100, bc_m200, B_bind, B_bind_if, B_ift, B_bz0, B_bz1, B_01_bz, B_01_e0, B_01_e1, if_pos, if_neg, reduceIte, Bool.false_eq_true, Bool.true_eq_false, po_52, pz_52, po_53, pz_53, po_54, pz_54, po_55, pz_55, po_56, pz_56, po_57, pz_57, po_58, pz_58, po_59, pz_59, po_60, pz_60, po_61, pz_61, po_62, pz_62, po_63, pz_63, po_64, pz_64, po_65, pz_65, po_66, pz_66, po_67, pz_67, po_68, pz_68, po_69, pz_69, po_70, pz_70, po_71, pz_71, po_72, pz_72, po_73, pz_73, po_74, pz_74, po_75, pz_75, po_76, pz_76, po_77, pz_77, po_78, pz_78, po_79, pz_79, po_80, pz_80, po_81, pz_81]
theorem mo_refusesSell_s (x y z : Int32) (R : R_m h P T K Y S) (W : R_w P T K Y S) : mo_refusesSell x y z h = some (S_nsell S P T x y z, h) := by
  have R' := R
  have W' := W
  obtain ⟨⟨mP, mT, mK, mY, m0, m3, m5, m7, m10⟩, ⟨a1, a2, a4, a8, a6, a9⟩⟩ := R
  obtain ⟨h6, h10, h5, hY2, hY60, w0, w1, w2, w4, w6, w7, w8, w9, w10, w11⟩ := W
  unfold mo_refusesSell S_nsell
  rw [mo_areTwo_s x y R'.1 W', B_bind]
  cases hx : (B_is x P && B_is y P && !decide (x = y)) with
  | false => simp only [mo_refusesSell_55, mo_refusesSell_122, mo_refusesSell_128, bc_0, bc_m1, bc_1, bc_2, bc_3, bc_4, bc_5, bc_6, bc_7, bc_8, bc_9, bc_10, bc_11, bc_12, bc_13, bc_16, bc_22, bc_24, bc_32, bc_40, bc_41, bc_42, bc_43, bc_44, bc_45, bc_47, bc_48, bc_52, bc_57, bc_58, bc_59, bc_60, bc_61, bc_62, bc_63, bc_64, bc_76, bc_80, bc_97, bc_99, bc_105, bc_106, bc_107, bc_108, bc_109, bc_110, bc_111, bc_112, bc_113, bc_114, bc_115, bc_116, bc_117, bc_118, bc_119, bc_120, bc_121, bc_122, bc_255, bc_256, bc_400, bc_572, bc_999, bc_1024, bc_10000, bc_m2, bc_m3, bc_m8, bc_m100, bc_m200, B_bind, B_bind_if, B_ift, B_bz0, B_bz1, B_01_bz, B_01_e0, B_01_e1, if_pos, if_neg, reduceIte, Bool.false_eq_true, Bool.true_eq_false, B_01_f, Bool.false_and]
  | true =>
    simp only [mo_isThing_eq z mT h10, B_bind, B_bind_if, B_ift, B_bz0, B_bz1, B_01_bz, B_01_e0, B_01_e1, if_pos, if_neg, reduceIte, Bool.false_eq_true, Bool.true_eq_false, Bool.true_and]
    have hx' := hx
    simp only [Bool.and_eq_true] at hx'
    rw [hx'.1.1]
    cases hz : B_is z T with
    | false => simp only [mo_refusesSell_55, mo_refusesSell_122, mo_refusesSell_128, bc_0, bc_m1, bc_1, bc_2, bc_3, bc_4, bc_5, bc_6, bc_7, bc_8, bc_9, bc_10, bc_11, bc_12, bc_13, bc_16, bc_22, bc_24, bc_32, bc_40, bc_41, bc_42, bc_43, bc_44, bc_45, bc_47, bc_48, bc_52, bc_57, bc_58, bc_59, bc_60, bc_61, bc_62, bc_63, bc_64, bc_76, bc_80, bc_97, bc_99, bc_105, bc_106, bc_107, bc_108, bc_109, bc_110, bc_111, bc_112, bc_113, bc_114, bc_115, bc_116, bc_117, bc_118, bc_119, bc_120, bc_121, bc_122, bc_255, bc_256, bc_400, bc_572, bc_999, bc_1024, bc_10000, bc_m2, bc_m3, bc_m8, bc_m100, bc_m200, B_bind, B_bind_if, B_ift, B_bz0, B_bz1, B_01_bz, B_01_e0, B_01_e1, if_pos, if_neg, reduceIte, Bool.false_eq_true, Bool.true_eq_false, B_01_f, B_01_t, Bool.false_and, Bool.and_false]
    | true =>
      obtain ⟨p, hp, rfl⟩ := B_is_ex hx'.1.1 (by omega)
      obtain ⟨o, ho, rfl⟩ := B_is_ex hx'.1.2 (by omega)
      obtain ⟨k, hk, rfl⟩ := B_is_ex hz (by omega)
      simp (disch := omega) only [a6, a8, a4, a1, a2, m7, mo_priceOf_s hk R' W', mo_refusesSell_55, mo_refusesSell_122, mo_refusesSell_128, bn_le, bn_lt, bn_eq, bn_le0, bn_0le, bn_lt0, bn_0lt, bn_eq0, bn_0eq, bn_eqm, bn_mlt0, bn_0lem, bn_m0, bn_mle0, bn_ltm, bn_mlt, bn_mle, bn_lem, nI_add, pk_mul, pk_sub, nI_clamp, B_n_nI, bn_0, bc_0, bc_m1, bc_1, bc_2, bc_3, bc_4, bc_5, bc_6, bc_7, bc_8, bc_9, bc_10, bc_11, bc_12, bc_13, bc_16, bc_22, bc_24, bc_32, bc_40, bc_41, bc_42, bc_43, bc_44, bc_45, bc_47, bc_48, bc_52, bc_57, bc_58, bc_59, bc_60, bc_61, bc_62, bc_63, bc_64, bc_76, bc_80, bc_97, bc_99, bc_105, bc_106, bc_107, bc_108, bc_109, bc_110, bc_111, bc_112, bc_113, bc_114, bc_115, bc_116, bc_117, bc_118, bc_119, bc_120, bc_121, bc_122, bc_255, bc_256, bc_400, bc_572, bc_999, bc_1024, bc_10000, bc_m2, bc_m3, bc_m8, bc_m100, bc_m200, B_bind, B_bind_if, B_ift, B_bz0, B_bz1, B_01_bz, B_01_e0, B_01_e1, if_pos, if_neg, reduceIte, Bool.false_eq_true, Bool.true_eq_false, po_52, pz_52, po_53, pz_53, po_54, pz_54, po_55, pz_55, po_56, pz_56, po_57, pz_57, po_58, pz_58, po_59, pz_59, po_60, pz_60, po_61, pz_61, po_62, pz_62, po_63, pz_63, po_64, pz_64, po_65, pz_65, po_66, pz_66, po_67, pz_67, po_68, pz_68, po_69, pz_69, po_70, pz_70, po_71, pz_71, po_72, pz_72, po_73, pz_73, po_74, pz_74, po_75, pz_75, po_76, pz_76, po_77, pz_77, po_78, pz_78, po_79, pz_79, po_80, pz_80, po_81, pz_81, B_01_t, Bool.true_and]
      by_cases q6 : S 6 k = nI p
      · rcases w8 k hk with q8 | q8
        · have q9 : ¬ (0 : Int32) = nI 1 := by decide
          by_cases q4 : S 4 k = 0
          · simp [q6, q8, q9, q4]
          · by_cases q1 : S 1 p = S 1 o
            · by_cases qa : S 2 o < S_price S k
              · simp [q6, q8, q9, q4, q1, qa]
              · by_cases qb : S 7 k = nI o
                · simp [q6, q8, q9, q4, q1, qa, qb]
                · by_cases qc : nI 99 < S 2 p + S_price S k
                  · have qd : ¬ S 2 p + S_price S k ≤ nI 99 := Int32.not_le.mpr qc
                    simp [q6, q8, q9, q4, q1, qa, qb, qc, qd]
                  · have qd : S 2 p + S_price S k ≤ nI 99 := Int32.not_lt.mp qc
                    simp [q6, q8, q9, q4, q1, qa, qb, qc, qd]
            · simp [q6, q8, q9, q4, q1]
        · have q9 : ¬ nI 1 = (0 : Int32) := by decide
          simp [q6, q8, q9]
      · simp [q6]
end RM
