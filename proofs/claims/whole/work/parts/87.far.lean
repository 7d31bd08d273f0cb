/-! Layer B: far, keeps -/
theorem B_ld_9 (h : pH) (ab st bk yd : Int32) : B_ld h ab st bk yd 22 9 = yd := by
  unfold B_ld
  rw [B_w_at, if_neg (by decide), B_w_same]
theorem B_ld_8 (h : pH) (ab st bk yd : Int32) : B_ld h ab st bk yd 22 8 = bk := by
  unfold B_ld
  rw [B_w_at, if_neg (by decide), B_w_at, if_neg (by decide), B_w_same]
theorem B_ld_7 (h : pH) (ab st bk yd : Int32) : B_ld h ab st bk yd 22 7 = st := by
  unfold B_ld
  rw [B_w_at, if_neg (by decide), B_w_at, if_neg (by decide), B_w_at, if_neg (by decide), B_w_same]
theorem B_ld_6 (h : pH) (ab st bk yd : Int32) : B_ld h ab st bk yd 22 6 = ab := by
  unfold B_ld
  rw [B_w_at, if_neg (by decide), B_w_at, if_neg (by decide), B_w_at, if_neg (by decide), B_w_at, if_neg (by decide), B_w_same]
theorem B_ld_5 (h : pH) (ab st bk yd : Int32) : B_ld h ab st bk yd 22 5 = 0 := by
  unfold B_ld
  rw [B_w_same]
section FAR
variable {i : Nat} {h : pH} {P T K Y : Nat} {S : pH}
theorem S_beg_ex {x1 x2 x3 : Int32} (W : R_w P T K Y S) (q : S_beg S P x1 x2 x3 = true) : ∃ p b f, p < P ∧ b < 2 ∧ f < 2 + K ∧ x1 = nI p ∧ x3 = nI b ∧ S 1 p = nI f ∧ ¬ f = b ∧ (x2 = -1 ∨ ∃ o, o < P ∧ x2 = nI o ∧ ¬ p = o ∧ S 1 p = S 1 o) := by
  have h6 := W.1
  have h5 := W.2.2.1
  have w1 := W.2.2.2.2.2.2.1
  unfold S_beg at q
  simp only [Bool.and_eq_true, Bool.or_eq_true, Bool.not_eq_true', decide_eq_true_eq, decide_eq_false_iff_not] at q
  obtain ⟨p, hp, rfl⟩ := B_is_ex q.1.1.1 (by omega)
  obtain ⟨b, hb, rfl⟩ := B_is_ex q.1.1.2 (by omega)
  have q1 := q.1.2
  have q2 := q.2
  rw [B_n_nI (by omega)] at q1 q2
  obtain ⟨f, hf, ef⟩ := w1 p hp
  refine ⟨p, b, f, hp, hb, hf, rfl, rfl, ef, fun e => q1 (by rw [ef, e]), ?_⟩
  rcases q2 with q2 | q2
  · exact Or.inl q2
  · obtain ⟨o, ho, rfl⟩ := B_is_ex q2.1.1.2 (by omega)
    rw [B_n_nI (show o < 2 ^ 31 by omega)] at q2
    exact Or.inr ⟨o, ho, rfl, fun e => q2.1.2 (by rw [e]), q2.2⟩
theorem S_beg_1 (x1 x3 : Int32) : S_beg S P x1 (-1) x3 = (B_is x1 P && B_is x3 2 && !decide (S 1 (B_n x1) = x3)) := by
  unfold S_beg
  simp
theorem mo_canGo_s (x1 x3 : Int32) (R : R_m h P T K Y S) (W : R_w P T K Y S) : mo_canGo x1 x3 h = some (B_01 (S_beg S P x1 (-1) x3), h) := by
  obtain ⟨⟨mP, mT, mK, mY, m0, m3, m5, m7, m10⟩, ⟨a1, a2, a4, a8, a6, a9⟩⟩ := R
  obtain ⟨h6, h10, h5, -⟩ := W
  rw [S_beg_1]
  unfold mo_canGo
  rw [mo_isPerson_eq x1 mP h6, B_bind]
  cases hx : B_is x1 P with
  | false => simp only [mo_canGo_29, mo_canGo_30, bc_0, bc_m1, bc_1, bc_2, bc_3, bc_4, bc_5, bc_6, bc_7, bc_8, bc_9, bc_10, bc_11, bc_12, bc_13, bc_16, bc_22, bc_24, bc_32, bc_40, bc_41, bc_42, bc_43, bc_44, bc_45, bc_47, bc_48, bc_52, bc_57, bc_58, bc_59, bc_60, bc_61, bc_62, bc_63, bc_64, bc_76, bc_80, bc_97, bc_99, bc_105, bc_106, bc_107, bc_108, bc_109, bc_110, bc_111, bc_112, bc_113, bc_114, bc_115, bc_116, bc_117, bc_118, bc_119, bc_120, bc_121, bc_122, bc_255, bc_256, bc_400, bc_572, bc_999, bc_1024, bc_10000, bc_m2, bc_m3, bc_m8, bc_m100, bc_m200, B_bind, B_bind_if, B_ift, B_bz0, B_bz1, B_01_bz, B_01_e0, B_01_e1, if_pos, if_neg, reduceIte, Bool.false_eq_true, Bool.true_eq_false, B_01_f, Bool.false_and]
  | true =>
    rw [if_neg (by decide), mo_isBank_eq, B_bind]
    cases hb : B_is x3 2 with
    | false => simp only [mo_canGo_29, mo_canGo_30, bc_0, bc_m1, bc_1, bc_2, bc_3, bc_4, bc_5, bc_6, bc_7, bc_8, bc_9, bc_10, bc_11, bc_12, bc_13, bc_16, bc_22, bc_24, bc_32, bc_40, bc_41, bc_42, bc_43, bc_44, bc_45, bc_47, bc_48, bc_52, bc_57, bc_58, bc_59, bc_60, bc_61, bc_62, bc_63, bc_64, bc_76, bc_80, bc_97, bc_99, bc_105, bc_106, bc_107, bc_108, bc_109, bc_110, bc_111, bc_112, bc_113, bc_114, bc_115, bc_116, bc_117, bc_118, bc_119, bc_120, bc_121, bc_122, bc_255, bc_256, bc_400, bc_572, bc_999, bc_1024, bc_10000, bc_m2, bc_m3, bc_m8, bc_m100, bc_m200, B_bind, B_bind_if, B_ift, B_bz0, B_bz1, B_01_bz, B_01_e0, B_01_e1, if_pos, if_neg, reduceIte, Bool.false_eq_true, Bool.true_eq_false, B_01_f, Bool.false_and, Bool.and_false, Bool.true_and]
    | true =>
      obtain ⟨p, hp, rfl⟩ := B_is_ex hx (by omega)
      simp (disch := omega) only [a1, mo_canGo_29, mo_canGo_30, bn_le, bn_lt, bn_eq, bn_le0, bn_0le, bn_lt0, bn_0lt, bn_eq0, bn_0eq, bn_eqm, bn_mlt0, bn_0lem, bn_m0, bn_mle0, bn_ltm, bn_mlt, bn_mle, bn_lem, nI_add, pk_mul, pk_sub, nI_clamp, B_n_nI, bn_0, bc_0, bc_m1, bc_1, bc_2, bc_3, bc_4, bc_5, bc_6, bc_7, bc_8, bc_9, bc_10, bc_11, bc_12, bc_13, bc_16, bc_22, bc_24, bc_32, bc_40, bc_41, bc_42, bc_43, bc_44, bc_45, bc_47, bc_48, bc_52, bc_57, bc_58, bc_59, bc_60, bc_61, bc_62, bc_63, bc_64, bc_76, bc_80, bc_97, bc_99, bc_105, bc_106, bc_107, bc_108, bc_109, bc_110, bc_111, bc_112, bc_113, bc_114, bc_115, bc_116, bc_117, bc_118, bc_119, bc_120, bc_121, bc_122, bc_255, bc_256, bc_400, bc_572, bc_999, bc_1024, bc_10000, bc_m2, bc_m3, bc_m8, bc_m100, bc_m200, B_bind, B_bind_if, B_ift, B_bz0, B_bz1, B_01_bz, B_01_e0, B_01_e1, if_pos, if_neg, reduceIte, Bool.false_eq_true, Bool.true_eq_false, po_52, pz_52, po_53, pz_53, po_54, pz_54, po_55, pz_55, po_56, pz_56, po_57, pz_57, po_58, pz_58, po_59, pz_59, po_60, pz_60, po_61, pz_61, po_62, pz_62, po_63, pz_63, po_64, pz_64, po_65, pz_65, po_66, pz_66, po_67, pz_67, po_68, pz_68, po_69, pz_69, po_70, pz_70, po_71, pz_71, po_72, pz_72, po_73, pz_73, po_74, pz_74, po_75, pz_75, po_76, pz_76, po_77, pz_77, po_78, pz_78, po_79, pz_79, po_80, pz_80, po_81, pz_81, B_01_t, Bool.true_and]
      by_cases q : S 1 p = x3
      · simp [q, B_01]
      · simp [q, B_01, nI]
theorem B_far (hI : Inv i h) (v0 v1 : Int32) : ∃ r h1 h2, wu_far v0 v1 h = some (r, h1) ∧ mo_far v0 v1 h1 = some (r, h2) ∧ Inv (i + 5) h2 := by
  refine B_call hI (fun P T K Y n S ev I r R M W => ?_)
  have h6 := W.1
  have hmo : ∀ hh, R_m (B_t0 hh) P T K Y S → mo_far v0 v1 hh = some (if S_beg S P v0 (-1) v1 = true then nI (S_dist S Y (B_n (S 1 (B_n v0))) (B_n v1)) else -1, B_t0 hh) := by
    intro hh M
    have M' := M
    obtain ⟨⟨mP, mT, mK, mY, m0, m3, m5, m7, m10⟩, ⟨a1, a2, a4, a8, a6, a9⟩⟩ := M
    rw [S_beg_1]
    unfold mo_far
    rw [bc_0]
    show px_bind (mo_isPerson v0 (B_t0 hh)) _ = _
    rw [mo_isPerson_eq v0 mP h6, B_bind]
    cases hx : B_is v0 P with
    | false => simp only [mo_far_44, mo_far_45, bc_0, bc_m1, bc_1, bc_2, bc_3, bc_4, bc_5, bc_6, bc_7, bc_8, bc_9, bc_10, bc_11, bc_12, bc_13, bc_16, bc_22, bc_24, bc_32, bc_40, bc_41, bc_42, bc_43, bc_44, bc_45, bc_47, bc_48, bc_52, bc_57, bc_58, bc_59, bc_60, bc_61, bc_62, bc_63, bc_64, bc_76, bc_80, bc_97, bc_99, bc_105, bc_106, bc_107, bc_108, bc_109, bc_110, bc_111, bc_112, bc_113, bc_114, bc_115, bc_116, bc_117, bc_118, bc_119, bc_120, bc_121, bc_122, bc_255, bc_256, bc_400, bc_572, bc_999, bc_1024, bc_10000, bc_m2, bc_m3, bc_m8, bc_m100, bc_m200, B_bind, B_bind_if, B_ift, B_bz0, B_bz1, B_01_bz, B_01_e0, B_01_e1, if_pos, if_neg, reduceIte, Bool.false_eq_true, Bool.true_eq_false, B_01_f, Bool.false_and]
    | true =>
      rw [if_neg (by decide), mo_isBank_eq, B_bind]
      cases hb : B_is v1 2 with
      | false => simp only [mo_far_44, mo_far_45, bc_0, bc_m1, bc_1, bc_2, bc_3, bc_4, bc_5, bc_6, bc_7, bc_8, bc_9, bc_10, bc_11, bc_12, bc_13, bc_16, bc_22, bc_24, bc_32, bc_40, bc_41, bc_42, bc_43, bc_44, bc_45, bc_47, bc_48, bc_52, bc_57, bc_58, bc_59, bc_60, bc_61, bc_62, bc_63, bc_64, bc_76, bc_80, bc_97, bc_99, bc_105, bc_106, bc_107, bc_108, bc_109, bc_110, bc_111, bc_112, bc_113, bc_114, bc_115, bc_116, bc_117, bc_118, bc_119, bc_120, bc_121, bc_122, bc_255, bc_256, bc_400, bc_572, bc_999, bc_1024, bc_10000, bc_m2, bc_m3, bc_m8, bc_m100, bc_m200, B_bind, B_bind_if, B_ift, B_bz0, B_bz1, B_01_bz, B_01_e0, B_01_e1, if_pos, if_neg, reduceIte, Bool.false_eq_true, Bool.true_eq_false, B_01_f, Bool.false_and, Bool.and_false, Bool.true_and]
      | true =>
        obtain ⟨p, hp, rfl⟩ := B_is_ex hx (by omega)
        obtain ⟨b, hb2, rfl⟩ := B_is_ex hb (by omega)
        obtain ⟨f, hf, ef⟩ := W.2.2.2.2.2.2.1 p hp
        have h5 := W.2.2.1
        have ed := mo_distance_s hf (show b < 2 + K by omega) M'.1 W
        simp (disch := omega) only [a1, ef, ed, mo_far_44, mo_far_45, bn_le, bn_lt, bn_eq, bn_le0, bn_0le, bn_lt0, bn_0lt, bn_eq0, bn_0eq, bn_eqm, bn_mlt0, bn_0lem, bn_m0, bn_mle0, bn_ltm, bn_mlt, bn_mle, bn_lem, nI_add, pk_mul, pk_sub, nI_clamp, B_n_nI, bn_0, bc_0, bc_m1, bc_1, bc_2, bc_3, bc_4, bc_5, bc_6, bc_7, bc_8, bc_9, bc_10, bc_11, bc_12, bc_13, bc_16, bc_22, bc_24, bc_32, bc_40, bc_41, bc_42, bc_43, bc_44, bc_45, bc_47, bc_48, bc_52, bc_57, bc_58, bc_59, bc_60, bc_61, bc_62, bc_63, bc_64, bc_76, bc_80, bc_97, bc_99, bc_105, bc_106, bc_107, bc_108, bc_109, bc_110, bc_111, bc_112, bc_113, bc_114, bc_115, bc_116, bc_117, bc_118, bc_119, bc_120, bc_121, bc_122, bc_255, bc_256, bc_400, bc_572, bc_999, bc_1024, bc_10000, bc_m2, bc_m3, bc_m8, bc_m100, bc_m200, B_bind, B_bind_if, B_ift, B_bz0, B_bz1, B_01_bz, B_01_e0, B_01_e1, if_pos, if_neg, reduceIte, Bool.false_eq_true, Bool.true_eq_false, po_52, pz_52, po_53, pz_53, po_54, pz_54, po_55, pz_55, po_56, pz_56, po_57, pz_57, po_58, pz_58, po_59, pz_59, po_60, pz_60, po_61, pz_61, po_62, pz_62, po_63, pz_63, po_64, pz_64, po_65, pz_65, po_66, pz_66, po_67, pz_67, po_68, pz_68, po_69, pz_69, po_70, pz_70, po_71, pz_71, po_72, pz_72, po_73, pz_73, po_74, pz_74, po_75, pz_75, po_76, pz_76, po_77, pz_77, po_78, pz_78, po_79, pz_79, po_80, pz_80, po_81, pz_81, B_01_t, Bool.true_and]
        by_cases q : f = b
        · simp [q]
        · simp [q]
  cases q : S_beg S P v0 (-1) v1 with
  | true =>
    have F := B_ld_fr h (S_abd v0 (-1)) (S 1 (B_n v0)) v1 (nI (S_dist S Y (B_n (S 1 (B_n v0))) (B_n v1)))
    refine ⟨nI (S_dist S Y (B_n (S 1 (B_n v0))) (B_n v1)), B_ld h (S_abd v0 (-1)) (S 1 (B_n v0)) v1 (nI (S_dist S Y (B_n (S 1 (B_n v0))) (B_n v1))), _, ?_, ?_, B_q0 I r F (B_t0_fr _) rfl rfl (B_t0_at _ (by decide)) (B_t0_row _ (by decide))⟩
    · unfold wu_far wu_far_24
      rw [bc_m1, cr_begin_s _ _ _ R W, q, if_pos rfl, B_bind, if_neg (by decide), B_ld_9]
    · rw [hmo _ ((I.2.1.sm F.sm_c).sm (B_t0_fr _).sm_d), q, if_pos rfl]
  | false =>
    refine ⟨-1, h, _, ?_, ?_, B_qr I r⟩
    · unfold wu_far wu_far_24
      rw [bc_m1, cr_begin_s _ _ _ R W, q, if_neg (by decide), B_bind, if_pos rfl]
    · rw [hmo _ M, q, if_neg (by decide)]
end FAR
