/-! Layer B: whisper, sell -/
section TRADE
variable {i : Nat} {h : pH} {P T K Y U s : Nat} {S : pH}
def S_nwh (S : pH) (P T : Nat) (x y z : Int32) : Int32 := if (B_is x P && B_is y P && !decide (x = y)) && B_is z T && B_bit (S 9 (B_n z)) (B_n x) && (!decide (S 8 (B_n z) = 0) || decide (S 6 (B_n z) = x)) then (if S 1 (B_n x) = S 1 (B_n y) then 0 else -2) else -1
def S_rwh (S : pH) (o t : Nat) : Int32 := if B_bit (S 9 t) o = true then 0 else nI 1
theorem S_nwh_0 {x y z : Int32} (W : R_w P T K Y S) (h0 : 0 ≤ S_nwh S P T x y z) : ∃ p o t, p < P ∧ o < P ∧ t < T ∧ x = nI p ∧ y = nI o ∧ z = nI t ∧ ¬ p = o ∧ B_bit (S 9 t) p = true ∧ (¬ S 8 t = 0 ∨ S 6 t = nI p) ∧ S 1 p = S 1 o := by
  have h6 := W.1
  have h10 := W.2.1
  unfold S_nwh at h0
  by_cases q : ((B_is x P && B_is y P && !decide (x = y)) && B_is z T && B_bit (S 9 (B_n z)) (B_n x) && (!decide (S 8 (B_n z) = 0) || decide (S 6 (B_n z) = x))) = true
  · rw [if_pos q] at h0
    simp only [Bool.and_eq_true, Bool.or_eq_true, Bool.not_eq_true', decide_eq_true_eq, decide_eq_false_iff_not] at q
    obtain ⟨p, hp, rfl⟩ := B_is_ex q.1.1.1.1.1 (by omega)
    obtain ⟨o, ho, rfl⟩ := B_is_ex q.1.1.1.1.2 (by omega)
    obtain ⟨t, ht, rfl⟩ := B_is_ex q.1.1.2 (by omega)
    rw [B_n_nI (by omega), B_n_nI (by omega)] at q h0
    refine ⟨p, o, t, hp, ho, ht, rfl, rfl, rfl, fun e => q.1.1.1.2 (by rw [e]), q.1.2, q.2, ?_⟩
    by_cases w : S 1 p = S 1 o
    · exact w
    · rw [if_neg w] at h0
      exact absurd h0 (by decide)
  · rw [if_neg q] at h0
    exact absurd h0 (by decide)
theorem hs_passOn_0 {p o t : Nat} (hp : p < P) (ho : o < P) (ht : t < T) (hpo : ¬ p = o) (hk : B_bit (S 9 t) p = true) (hs : ¬ S 8 t = 0 ∨ S 6 t = nI p) (hto : S 1 p = S 1 o) (R : R_c h P T K Y S) (W : R_w P T K Y S) : hs_passOn (nI p) (nI o) (nI t) h = some (S_rwh S o t, px_w h 13 t (S 9 t ||| (nI 1 <<< (nI o &&& 31)))) := by
  have R' := R
  have h6 := W.1
  have h10 := W.2.1
  have hpo' : ¬ nI p = nI o := fun e => hpo ((nI_eq (by omega) (by omega)).mp e)
  obtain ⟨hP, hT, hK, hY, c0, c1, c2, c3, c4, c5, c6, c7, c8, c9, c10⟩ := R
  have e57 : hs_passOn_57 (nI p) (nI o) (nI t) h = some (S_rwh S o t, px_w h 13 t (S 9 t ||| (nI 1 <<< (nI o &&& 31)))) := by
    have ht2 := hs_areTogether_s hp ho R' W
    rw [decide_eq_true hto] at ht2
    unfold hs_passOn_57 S_rwh
    simp (disch := omega) only [ht2, hs_passOn_89, c9, wu_has_eq, bn_le, bn_lt, bn_eq, bn_le0, bn_0le, bn_lt0, bn_0lt, bn_eq0, bn_0eq, bn_eqm, bn_mlt0, bn_0lem, bn_m0, bn_mle0, bn_ltm, bn_mlt, bn_mle, bn_lem, nI_add, pk_mul, pk_sub, nI_clamp, B_n_nI, bn_0, bc_0, bc_m1, bc_1, bc_2, bc_3, bc_4, bc_5, bc_6, bc_7, bc_8, bc_9, bc_10, bc_11, bc_12, bc_13, bc_16, bc_22, bc_24, bc_32, bc_40, bc_41, bc_42, bc_43, bc_44, bc_45, bc_47, bc_48, bc_52, bc_57, bc_58, bc_59, bc_60, bc_61, bc_62, bc_63, bc_64, bc_76, bc_80, bc_97, bc_99, bc_105, bc_106, bc_107, bc_108, bc_109, bc_110, bc_111, bc_112, bc_113, bc_114, bc_115, bc_116, bc_117, bc_118, bc_119, bc_120, bc_121, bc_122, bc_255, bc_256, bc_400, bc_572, bc_999, bc_1024, bc_10000, bc_m2, bc_m3, bc_m8, bc_m100, bc_m200, B_bind, B_bind_if, B_ift, B_bz0, B_bz1, B_01_bz, B_01_e0, B_01_e1, if_pos, if_neg, reduceIte, Bool.false_eq_true, Bool.true_eq_false, wa_4, wz_4, wa_5, wz_5, wa_6, wz_6, wa_7, wz_7, wa_8, wz_8, wa_9, wz_9, wa_10, wz_10, wa_11, wz_11, wa_12, wz_12, wa_13, wz_13, wa_15, wz_15, wa_16, wz_16, wa_18, wz_18, wa_19, wz_19, wa_20, wz_20, wa_23, wz_23, wa_24, wz_24, wa_26, wz_26, wa_27, wz_27, wa_28, wz_28, wa_29, wz_29, wa_30, wz_30, wa_31, wz_31, wa_32, wz_32, wa_34, wz_34, wa_35, wz_35, wa_36, wz_36, wa_37, wz_37, wa_38, wz_38, wa_39, wz_39, wa_40, wz_40, wa_42, wz_42, wa_44, wz_44, wa_46, wz_46, wa_48, wz_48, wa_49, wz_49, wa_50, wz_50, wp_4, wq_4, wp_5, wq_5, wp_6, wq_6, wp_7, wq_7, wp_8, wq_8, wp_9, wq_9, wp_10, wq_10, wp_11, wq_11, wp_12, wq_12, wp_13, wq_13, wp_15, wq_15, wp_16, wq_16, wp_18, wq_18, wp_19, wq_19, wp_20, wq_20, wp_23, wq_23, wp_24, wq_24, wp_26, wq_26, wp_27, wq_27, wp_28, wq_28, wp_29, wq_29, wp_30, wq_30, wp_31, wq_31, wp_32, wq_32, wp_34, wq_34, wp_35, wq_35, wp_36, wq_36, wp_37, wq_37, wp_38, wq_38, wp_39, wq_39, wp_40, wq_40, wp_42, wq_42, wp_44, wq_44, wp_46, wq_46, wp_48, wq_48, wp_49, wq_49, wp_50, wq_50, B_01_t]
    by_cases q : B_bit (S 9 t) o = true <;> simp [q, nI]
  have q2 : (B_is (nI p) P && B_is (nI o) P && !decide (nI p = nI o)) = true := by
    rw [B_is_t hp (by omega), B_is_t ho (by omega), decide_eq_false hpo']
    rfl
  unfold hs_passOn
  rw [hs_areTwo_s _ _ R' W, q2, B_bind, hs_hasThing_eq _ hT h10, B_is_t ht (by omega), if_neg (by decide), B_bind, if_neg (by decide), wa_13 (by omega), B_bind, c9 t ht, wu_has_eq _ (by omega), hk, B_bind, if_neg (by decide), wa_12 (by omega), B_bind, c8 t ht]
  by_cases q8 : S 8 t = 0
  · rw [if_pos q8, wa_10 (by omega), B_bind, c6 t ht]
    rcases hs with hs | hs
    · exact absurd q8 hs
    · rw [if_pos hs, e57]
  · rw [if_neg q8, e57]
theorem hs_passOn_n {x y z : Int32} (h0 : ¬ 0 ≤ S_nwh S P T x y z) (R : R_c h P T K Y S) (W : R_w P T K Y S) : hs_passOn x y z h = some (S_nwh S P T x y z, h) := by
  have R' := R
  have W' := W
  obtain ⟨hP, hT, hK, hY, c0, c1, c2, c3, c4, c5, c6, c7, c8, c9, c10⟩ := R
  obtain ⟨h6, h10, h5, hY2, hY60, w0, w1, w2, w4, w6, w7, w8, w9, w10, w11⟩ := W
  unfold hs_passOn
  unfold S_nwh at h0 ⊢
  rw [hs_areTwo_s _ _ R' W', B_bind]
  cases hx : (B_is x P && B_is y P && !decide (x = y)) with
  | false => simp only [hs_passOn_55, bc_0, bc_m1, bc_1, bc_2, bc_3, bc_4, bc_5, bc_6, bc_7, bc_8, bc_9, bc_10, bc_11, bc_12, bc_13, bc_16, bc_22, bc_24, bc_32, bc_40, bc_41, bc_42, bc_43, bc_44, bc_45, bc_47, bc_48, bc_52, bc_57, bc_58, bc_59, bc_60, bc_61, bc_62, bc_63, bc_64, bc_76, bc_80, bc_97, bc_99, bc_105, bc_106, bc_107, bc_108, bc_109, bc_110, bc_111, bc_112, bc_113, bc_114, bc_115, bc_116, bc_117, bc_118, bc_119, bc_120, bc_121, bc_122, bc_255, bc_256, bc_400, bc_572, bc_999, bc_1024, bc_10000, bc_m2, bc_m3, bc_m8, bc_m100, bc_m200, B_bind, B_bind_if, B_ift, B_bz0, B_bz1, B_01_bz, B_01_e0, B_01_e1, if_pos, if_neg, reduceIte, Bool.false_eq_true, Bool.true_eq_false, B_01_f, Bool.false_and]
  | true =>
    rw [hx] at h0
    have hx' := hx
    simp only [Bool.and_eq_true, Bool.not_eq_true', decide_eq_false_iff_not] at hx'
    obtain ⟨p, hp, rfl⟩ := B_is_ex hx'.1.1 (by omega)
    obtain ⟨o, ho, rfl⟩ := B_is_ex hx'.1.2 (by omega)
    rw [if_neg (by decide), hs_hasThing_eq _ hT h10, B_bind]
    cases hz : B_is z T with
    | false => simp only [hs_passOn_55, bc_0, bc_m1, bc_1, bc_2, bc_3, bc_4, bc_5, bc_6, bc_7, bc_8, bc_9, bc_10, bc_11, bc_12, bc_13, bc_16, bc_22, bc_24, bc_32, bc_40, bc_41, bc_42, bc_43, bc_44, bc_45, bc_47, bc_48, bc_52, bc_57, bc_58, bc_59, bc_60, bc_61, bc_62, bc_63, bc_64, bc_76, bc_80, bc_97, bc_99, bc_105, bc_106, bc_107, bc_108, bc_109, bc_110, bc_111, bc_112, bc_113, bc_114, bc_115, bc_116, bc_117, bc_118, bc_119, bc_120, bc_121, bc_122, bc_255, bc_256, bc_400, bc_572, bc_999, bc_1024, bc_10000, bc_m2, bc_m3, bc_m8, bc_m100, bc_m200, B_bind, B_bind_if, B_ift, B_bz0, B_bz1, B_01_bz, B_01_e0, B_01_e1, if_pos, if_neg, reduceIte, Bool.false_eq_true, Bool.true_eq_false, B_01_f, Bool.false_and, Bool.and_false, Bool.true_and]
    | true =>
      rw [hz] at h0
      obtain ⟨t, ht, rfl⟩ := B_is_ex hz (by omega)
      rw [if_neg (by decide), wa_13 (by omega), B_bind, c9 t ht, wu_has_eq _ (by omega), B_bind]
      rw [B_n_nI (show t < 2 ^ 31 by omega), B_n_nI (show p < 2 ^ 31 by omega), B_n_nI (show o < 2 ^ 31 by omega)] at h0 ⊢
      by_cases qk : B_bit (S 9 t) p = true
      · rw [qk] at h0 ⊢
        rw [if_neg (by decide), wa_12 (by omega), B_bind, c8 t ht]
        have e57 : ¬ 0 ≤ (if S 1 p = S 1 o then (0 : Int32) else -2) → hs_passOn_57 (nI p) (nI o) (nI t) h = some (if S 1 p = S 1 o then (0 : Int32) else -2, h) := fun q => by
          by_cases w : S 1 p = S 1 o
          · rw [if_pos w] at q
            exact absurd (by decide) q
          · have ht2 := hs_areTogether_s hp ho R' W'
            rw [decide_eq_false w] at ht2
            unfold hs_passOn_57
            rw [ht2, B_bind, B_01_f, if_pos rfl, if_neg w, bc_m2]
        by_cases q8 : S 8 t = 0
        · rw [if_pos q8, wa_10 (by omega), B_bind, c6 t ht]
          by_cases q6 : S 6 t = nI p
          · rw [if_pos q6]
            simp only [q8, q6, decide_true, Bool.not_true, Bool.false_or, Bool.and_true, Bool.true_and, if_true] at h0 ⊢
            exact e57 h0
          · rw [if_neg q6]
            simp only [q8, q6, decide_true, decide_false, Bool.not_true, Bool.or_false, Bool.and_false, hs_passOn_55, bc_m1, Bool.false_eq_true, if_false]
        · rw [if_neg q8]
          simp only [q8, decide_false, Bool.not_false, Bool.true_or, Bool.and_true, Bool.true_and, if_true] at h0 ⊢
          exact e57 h0
      · simp only [Bool.not_eq_true] at qk
        rw [qk]
        simp only [hs_passOn_55, bc_0, bc_m1, bc_1, bc_2, bc_3, bc_4, bc_5, bc_6, bc_7, bc_8, bc_9, bc_10, bc_11, bc_12, bc_13, bc_16, bc_22, bc_24, bc_32, bc_40, bc_41, bc_42, bc_43, bc_44, bc_45, bc_47, bc_48, bc_52, bc_57, bc_58, bc_59, bc_60, bc_61, bc_62, bc_63, bc_64, bc_76, bc_80, bc_97, bc_99, bc_105, bc_106, bc_107, bc_108, bc_109, bc_110, bc_111, bc_112, bc_113, bc_114, bc_115, bc_116, bc_117, bc_118, bc_119, bc_120, bc_121, bc_122, bc_255, bc_256, bc_400, bc_572, bc_999, bc_1024, bc_10000, bc_m2, bc_m3, bc_m8, bc_m100, bc_m200, B_bind, B_bind_if, B_ift, B_bz0, B_bz1, B_01_bz, B_01_e0, B_01_e1, if_pos, if_neg, reduceIte, Bool.false_eq_true, Bool.true_eq_false, B_01_f, Bool.false_and, Bool.and_false, Bool.true_and]
theorem mo_refusesWhisper_s (x y z : Int32) (R : R_m h P T K Y S) (W : R_w P T K Y S) : mo_refusesWhisper x y z h = some (S_nwh S P T x y z, h) := by
  have R' := R
  have W' := W
  obtain ⟨⟨mP, mT, mK, mY, m0, m3, m5, m7, m10⟩, ⟨a1, a2, a4, a8, a6, a9⟩⟩ := R
  obtain ⟨h6, h10, h5, hY2, hY60, w0, w1, w2, w4, w6, w7, w8, w9, w10, w11⟩ := W
  unfold mo_refusesWhisper S_nwh
  rw [mo_areTwo_s x y R'.1 W', B_bind]
  cases hx : (B_is x P && B_is y P && !decide (x = y)) with
  | false => simp only [mo_refusesWhisper_58, bc_0, bc_m1, bc_1, bc_2, bc_3, bc_4, bc_5, bc_6, bc_7, bc_8, bc_9, bc_10, bc_11, bc_12, bc_13, bc_16, bc_22, bc_24, bc_32, bc_40, bc_41, bc_42, bc_43, bc_44, bc_45, bc_47, bc_48, bc_52, bc_57, bc_58, bc_59, bc_60, bc_61, bc_62, bc_63, bc_64, bc_76, bc_80, bc_97, bc_99, bc_105, bc_106, bc_107, bc_108, bc_109, bc_110, bc_111, bc_112, bc_113, bc_114, bc_115, bc_116, bc_117, bc_118, bc_119, bc_120, bc_121, bc_122, bc_255, bc_256, bc_400, bc_572, bc_999, bc_1024, bc_10000, bc_m2, bc_m3, bc_m8, bc_m100, bc_m200, B_bind, B_bind_if, B_ift, B_bz0, B_bz1, B_01_bz, B_01_e0, B_01_e1, if_pos, if_neg, reduceIte, Bool.false_eq_true, Bool.true_eq_false, B_01_f, Bool.false_and]
  | true =>
    have hx' := hx
    simp only [Bool.and_eq_true, Bool.not_eq_true', decide_eq_false_iff_not] at hx'
    obtain ⟨p, hp, rfl⟩ := B_is_ex hx'.1.1 (by omega)
    obtain ⟨o, ho, rfl⟩ := B_is_ex hx'.1.2 (by omega)
    rw [if_neg (by decide), mo_isThing_eq z mT h10, B_bind]
    cases hz : B_is z T with
    | false => simp only [mo_refusesWhisper_58, bc_0, bc_m1, bc_1, bc_2, bc_3, bc_4, bc_5, bc_6, bc_7, bc_8, bc_9, bc_10, bc_11, bc_12, bc_13, bc_16, bc_22, bc_24, bc_32, bc_40, bc_41, bc_42, bc_43, bc_44, bc_45, bc_47, bc_48, bc_52, bc_57, bc_58, bc_59, bc_60, bc_61, bc_62, bc_63, bc_64, bc_76, bc_80, bc_97, bc_99, bc_105, bc_106, bc_107, bc_108, bc_109, bc_110, bc_111, bc_112, bc_113, bc_114, bc_115, bc_116, bc_117, bc_118, bc_119, bc_120, bc_121, bc_122, bc_255, bc_256, bc_400, bc_572, bc_999, bc_1024, bc_10000, bc_m2, bc_m3, bc_m8, bc_m100, bc_m200, B_bind, B_bind_if, B_ift, B_bz0, B_bz1, B_01_bz, B_01_e0, B_01_e1, if_pos, if_neg, reduceIte, Bool.false_eq_true, Bool.true_eq_false, B_01_f, Bool.false_and, Bool.and_false, Bool.true_and]
    | true =>
      obtain ⟨t, ht, rfl⟩ := B_is_ex hz (by omega)
      have e60 : mo_refusesWhisper_60 (nI p) (nI o) h = some (if S 1 p = S 1 o then 0 else -2, h) := by
        unfold mo_refusesWhisper_60 mo_refusesWhisper_81
        simp (disch := omega) only [a1, bn_le, bn_lt, bn_eq, bn_le0, bn_0le, bn_lt0, bn_0lt, bn_eq0, bn_0eq, bn_eqm, bn_mlt0, bn_0lem, bn_m0, bn_mle0, bn_ltm, bn_mlt, bn_mle, bn_lem, nI_add, pk_mul, pk_sub, nI_clamp, B_n_nI, bn_0, bc_0, bc_m1, bc_1, bc_2, bc_3, bc_4, bc_5, bc_6, bc_7, bc_8, bc_9, bc_10, bc_11, bc_12, bc_13, bc_16, bc_22, bc_24, bc_32, bc_40, bc_41, bc_42, bc_43, bc_44, bc_45, bc_47, bc_48, bc_52, bc_57, bc_58, bc_59, bc_60, bc_61, bc_62, bc_63, bc_64, bc_76, bc_80, bc_97, bc_99, bc_105, bc_106, bc_107, bc_108, bc_109, bc_110, bc_111, bc_112, bc_113, bc_114, bc_115, bc_116, bc_117, bc_118, bc_119, bc_120, bc_121, bc_122, bc_255, bc_256, bc_400, bc_572, bc_999, bc_1024, bc_10000, bc_m2, bc_m3, bc_m8, bc_m100, bc_m200, B_bind, B_bind_if, B_ift, B_bz0, B_bz1, B_01_bz, B_01_e0, B_01_e1, if_pos, if_neg, reduceIte, Bool.false_eq_true, Bool.true_eq_false, po_52, pz_52, po_53, pz_53, po_54, pz_54, po_55, pz_55, po_56, pz_56, po_57, pz_57, po_58, pz_58, po_59, pz_59, po_60, pz_60, po_61, pz_61, po_62, pz_62, po_63, pz_63, po_64, pz_64, po_65, pz_65, po_66, pz_66, po_67, pz_67, po_68, pz_68, po_69, pz_69, po_70, pz_70, po_71, pz_71, po_72, pz_72, po_73, pz_73, po_74, pz_74, po_75, pz_75, po_76, pz_76, po_77, pz_77, po_78, pz_78, po_79, pz_79, po_80, pz_80, po_81, pz_81]
        split <;> rfl
      simp (disch := omega) only [a9, a8, a6, mo_has_eq, e60, mo_refusesWhisper_58, bn_le, bn_lt, bn_eq, bn_le0, bn_0le, bn_lt0, bn_0lt, bn_eq0, bn_0eq, bn_eqm, bn_mlt0, bn_0lem, bn_m0, bn_mle0, bn_ltm, bn_mlt, bn_mle, bn_lem, nI_add, pk_mul, pk_sub, nI_clamp, B_n_nI, bn_0, bc_0, bc_m1, bc_1, bc_2, bc_3, bc_4, bc_5, bc_6, bc_7, bc_8, bc_9, bc_10, bc_11, bc_12, bc_13, bc_16, bc_22, bc_24, bc_32, bc_40, bc_41, bc_42, bc_43, bc_44, bc_45, bc_47, bc_48, bc_52, bc_57, bc_58, bc_59, bc_60, bc_61, bc_62, bc_63, bc_64, bc_76, bc_80, bc_97, bc_99, bc_105, bc_106, bc_107, bc_108, bc_109, bc_110, bc_111, bc_112, bc_113, bc_114, bc_115, bc_116, bc_117, bc_118, bc_119, bc_120, bc_121, bc_122, bc_255, bc_256, bc_400, bc_572, bc_999, bc_1024, bc_10000, bc_m2, bc_m3, bc_m8, bc_m100, bc_m200, B_bind, B_bind_if, B_ift, B_bz0, B_bz1, B_01_bz, B_01_e0, B_01_e1, if_pos, if_neg, reduceIte, Bool.false_eq_true, Bool.true_eq_false, po_52, pz_52, po_53, pz_53, po_54, pz_54, po_55, pz_55, po_56, pz_56, po_57, pz_57, po_58, pz_58, po_59, pz_59, po_60, pz_60, po_61, pz_61, po_62, pz_62, po_63, pz_63, po_64, pz_64, po_65, pz_65, po_66, pz_66, po_67, pz_67, po_68, pz_68, po_69, pz_69, po_70, pz_70, po_71, pz_71, po_72, pz_72, po_73, pz_73, po_74, pz_74, po_75, pz_75, po_76, pz_76, po_77, pz_77, po_78, pz_78, po_79, pz_79, po_80, pz_80, po_81, pz_81, B_01_t, Bool.true_and]
      by_cases qk : B_bit (S 9 t) p = true
      · by_cases q8 : S 8 t = 0
        · by_cases q6 : S 6 t = nI p
          · simp [qk, q8, q6, bn_10]
          · simp [qk, q8, q6, bn_10]
        · simp [qk, q8, bn_10]
      · simp [qk]
theorem mo_goWhisper_s {o t : Nat} (ho : o < P) (ht : t < T) (R : R_m h P T K Y S) (W : R_w P T K Y S) : mo_goWhisper (nI o) (nI t) h = some (S_rwh S o t, px_w h 52 (42 + t) (S 9 t ||| (nI 1 <<< (nI o &&& 31)))) := by
  obtain ⟨⟨mP, mT, mK, mY, m0, m3, m5, m7, m10⟩, ⟨a1, a2, a4, a8, a6, a9⟩⟩ := R
  have h6 := W.1
  have h10 := W.2.1
  unfold mo_goWhisper mo_goWhisper_21 S_rwh
  simp (disch := omega) only [a9, mo_has_eq, bn_le, bn_lt, bn_eq, bn_le0, bn_0le, bn_lt0, bn_0lt, bn_eq0, bn_0eq, bn_eqm, bn_mlt0, bn_0lem, bn_m0, bn_mle0, bn_ltm, bn_mlt, bn_mle, bn_lem, nI_add, pk_mul, pk_sub, nI_clamp, B_n_nI, bn_0, bc_0, bc_m1, bc_1, bc_2, bc_3, bc_4, bc_5, bc_6, bc_7, bc_8, bc_9, bc_10, bc_11, bc_12, bc_13, bc_16, bc_22, bc_24, bc_32, bc_40, bc_41, bc_42, bc_43, bc_44, bc_45, bc_47, bc_48, bc_52, bc_57, bc_58, bc_59, bc_60, bc_61, bc_62, bc_63, bc_64, bc_76, bc_80, bc_97, bc_99, bc_105, bc_106, bc_107, bc_108, bc_109, bc_110, bc_111, bc_112, bc_113, bc_114, bc_115, bc_116, bc_117, bc_118, bc_119, bc_120, bc_121, bc_122, bc_255, bc_256, bc_400, bc_572, bc_999, bc_1024, bc_10000, bc_m2, bc_m3, bc_m8, bc_m100, bc_m200, B_bind, B_bind_if, B_ift, B_bz0, B_bz1, B_01_bz, B_01_e0, B_01_e1, if_pos, if_neg, reduceIte, Bool.false_eq_true, Bool.true_eq_false, po_52, pz_52, po_53, pz_53, po_54, pz_54, po_55, pz_55, po_56, pz_56, po_57, pz_57, po_58, pz_58, po_59, pz_59, po_60, pz_60, po_61, pz_61, po_62, pz_62, po_63, pz_63, po_64, pz_64, po_65, pz_65, po_66, pz_66, po_67, pz_67, po_68, pz_68, po_69, pz_69, po_70, pz_70, po_71, pz_71, po_72, pz_72, po_73, pz_73, po_74, pz_74, po_75, pz_75, po_76, pz_76, po_77, pz_77, po_78, pz_78, po_79, pz_79, po_80, pz_80, po_81, pz_81]
  by_cases q : B_bit (S 9 t) o = true <;> simp [q, nI]
theorem R_w.kn (W : R_w P T K Y S) (t : Nat) (v : Int32) : R_w P T K Y (px_w S 9 t (S 9 t ||| v)) := by
  obtain ⟨h6, h10, h5, hY2, hY60, w0, w1, w2, w4, w6, w7, w8, w9, w10, w11⟩ := W
  refine ⟨h6, h10, h5, hY2, hY60, w0, w1, w2, w4, w6, w7, w8, fun k hk => ?_, w10, w11⟩
  show B_bit (px_w S 9 t (S 9 t ||| v) 9 k) (B_n (px_w S 9 t (S 9 t ||| v) 6 k)) = true
  rw [B_w_cell _ _ _ (show (6 : Nat) ≠ 9 by decide), B_w_at]
  split
  · rename_i q
    subst q
    rw [B_bit_or, w9 k hk]
    rfl
  · exact w9 k hk
theorem B_whisper (hI : Inv i h) (v0 v1 v2 : Int32) : ∃ r h1 h2, wu_whisper v0 v1 v2 h = some (r, h1) ∧ mo_whisper v0 v1 v2 h1 = some (r, h2) ∧ Inv (i + 5) h2 := by
  obtain ⟨P, T, K, Y, n, S, ev, I, r⟩ := hI
  have W := I.2.2.1
  have h6 := W.1
  have h10 := W.2.1
  have efm : ∀ hh, mo_whisper v0 v1 v2 hh = px_bind (mo_refusesWhisper v0 v1 v2 (B_t0 hh)) fun z2 h3 => if 0 ≤ z2 then px_bind (mo_remember 52 h3) fun _ h5 => px_bind (mo_goWhisper v1 v2 h5) fun z6 h7 => some (z6, h7) else some (z2, h3) := fun hh => by
    unfold mo_whisper
    rw [bc_0]
    rfl
  by_cases hw : 0 ≤ S_nwh S P T v0 v1 v2
  · obtain ⟨p, o, t, hp, ho, ht, rfl, rfl, rfl, hpo, hk, hs, hto⟩ := S_nwh_0 W hw
    refine B_gos (Z := px_w S 9 t (S 9 t ||| (nI 1 <<< (nI o &&& 31)))) (why := S_nwh S P T (nI p) (nI o) (nI t)) (rr := S_rwh S o t) (fc := wu_whisper (nI p) (nI o) (nI t)) (fm0 := mo_refusesWhisper (nI p) (nI o) (nI t)) (fm := mo_whisper (nI p) (nI o) (nI t)) (gc := hs_passOn (nI p) (nI o) (nI t)) (gm := mo_goWhisper (nI o) (nI t)) (hc := fun hh => px_w hh 13 t (S 9 t ||| (nI 1 <<< (nI o &&& 31)))) (hm := fun hh => px_w hh 52 (42 + t) (S 9 t ||| (nI 1 <<< (nI o &&& 31)))) I r (fun _ => ?_) (fun _ => W.kn t _) (fun i k _ _ _ _ h8 h9 => B_w_cell _ _ _ h9 |> fun e => congrFun e k) (fun hh => rfl) efm (fun q => absurd hw q) (fun _ hh R => ⟨hs_passOn_0 hp ho ht hpo hk hs hto R W, R.w13 t _, fun a _ _ _ _ h12 h13 => B_w_cell _ _ _ h13⟩) (fun hh M => mo_refusesWhisper_s _ _ _ M W) (fun _ hh M => ⟨mo_goWhisper_s ho ht M W, M.2.w9 h6 h10 (p := t) (by omega) _, fun a ha => B_w_cell _ _ _ ha⟩)
    unfold S_rwh
    split
    · decide
    · decide
  · exact B_gos (Z := S) (why := S_nwh S P T v0 v1 v2) (rr := 0) (fc := wu_whisper v0 v1 v2) (fm0 := mo_refusesWhisper v0 v1 v2) (fm := mo_whisper v0 v1 v2) (gc := hs_passOn v0 v1 v2) (gm := mo_goWhisper v1 v2) (hc := id) (hm := id) I r (fun q => absurd q hw) (fun q => absurd q hw) (fun _ _ _ _ _ _ _ _ => rfl) (fun hh => rfl) efm (fun q hh R => hs_passOn_n q R W) (fun q => absurd q hw) (fun hh M => mo_refusesWhisper_s _ _ _ M W) (fun q => absurd q hw)
/-- sold -/
def S_sold (S : pH) (p o t : Nat) : pH := px_w (px_w (px_w (px_w S 2 p (S 2 p + S_price S t)) 2 o (S 2 o - S_price S t)) 6 t (nI o)) 9 t (S 9 t ||| (nI 1 <<< (nI o &&& 31)))
theorem S_nsell_0 {x y z : Int32} (W : R_w P T K Y S) (h0 : 0 ≤ S_nsell S P T x y z) : ∃ p o t, p < P ∧ o < P ∧ t < T ∧ x = nI p ∧ y = nI o ∧ z = nI t ∧ ¬ p = o ∧ ¬ S 2 o < S_price S t ∧ ¬ nI 99 < S 2 p + S_price S t := by
  have h6 := W.1
  have h10 := W.2.1
  unfold S_nsell at h0
  by_cases q : ((B_is x P && B_is y P && !decide (x = y)) && (B_is x P && B_is z T && decide (S 6 (B_n z) = x) && decide (S 8 (B_n z) = 0)) && !decide (S 4 (B_n z) = 0)) = true
  · rw [if_pos q] at h0
    simp only [Bool.and_eq_true, Bool.not_eq_true', decide_eq_true_eq, decide_eq_false_iff_not] at q
    obtain ⟨p, hp, rfl⟩ := B_is_ex q.1.1.1.1 (by omega)
    obtain ⟨o, ho, rfl⟩ := B_is_ex q.1.1.1.2 (by omega)
    obtain ⟨t, ht, rfl⟩ := B_is_ex q.1.2.1.1.2 (by omega)
    rw [B_n_nI (show t < 2 ^ 31 by omega), B_n_nI (show p < 2 ^ 31 by omega), B_n_nI (show o < 2 ^ 31 by omega)] at h0
    refine ⟨p, o, t, hp, ho, ht, rfl, rfl, rfl, fun e => q.1.1.2 (by rw [e]), ?_⟩
    by_cases w : S 1 p = S 1 o
    · rw [if_pos w] at h0
      by_cases w2 : S 2 o < S_price S t
      · rw [if_pos w2] at h0
        exact absurd h0 (by decide)
      · rw [if_neg w2] at h0
        by_cases w3 : nI 99 < S 2 p + S_price S t
        · rw [if_pos w3] at h0
          exact absurd h0 (by decide)
        · exact ⟨w2, w3⟩
    · rw [if_neg w] at h0
      exact absurd h0 (by decide)
  · rw [if_neg q] at h0
    exact absurd h0 (by decide)
theorem px_w_comm2 (h : pH) {a k b j : Nat} (u v : Int32) (hkj : k ≠ j) : px_w (px_w h a k u) b j v = px_w (px_w h b j v) a k u := by
  funext c l
  unfold px_w
  by_cases q1 : c = b ∧ l = j
  · rw [if_pos q1, if_neg (fun q => hkj (by omega)), if_pos q1]
  · rw [if_neg q1]
    by_cases q2 : c = a ∧ l = k
    · rw [if_pos q2, if_pos q2]
    · rw [if_neg q2, if_neg q2, if_neg q1]
theorem hs_trade_0 {p o t : Nat} (hp : p < P) (ho : o < P) (ht : t < T) (hpo : ¬ p = o) (h0 : 0 ≤ S_nsell S P T (nI p) (nI o) (nI t)) (R : R_c h P T K Y S) (W : R_w P T K Y S) : hs_trade (nI p) (nI o) (nI t) h = some (S_price S t, px_w (px_w (px_w (px_w h 6 p (S 2 p + S_price S t)) 6 o (S 2 o - S_price S t)) 10 t (nI o)) 13 t (S 9 t ||| (nI 1 <<< (nI o &&& 31)))) := by
  have R' := R
  have h6 := W.1
  have h10 := W.2.1
  obtain ⟨hP, hT, hK, hY, c0, c1, c2, c3, c4, c5, c6, c7, c8, c9, c10⟩ := R
  have e2 : (px_w h 6 p (S 2 p + S_price S t)) 6 o = S 2 o := by rw [B_w_at, if_neg (fun q => hpo q.symm), c2 o ho]
  have epr : hs_price (nI t) h = some (S_price S t, h) := hs_price_s ht R' W
  unfold hs_trade
  rw [hs_whyNotSell_s _ _ _ R' W, B_bind, if_pos h0, epr, B_bind, wa_6 (by omega), B_bind, c2 p hp, wp_6 (by omega), B_bind, wa_6 (by omega), B_bind, e2, wp_6 (by omega), B_bind, wp_10 (by omega), B_bind, wa_13 (by omega), B_bind, B_w_cell _ _ _ (by decide), B_w_cell _ _ _ (by decide), B_w_cell _ _ _ (by decide), c9 t ht, wp_13 (by omega), B_bind, bc_1]
theorem mo_goSell_s {p o t : Nat} (hp : p < P) (ho : o < P) (ht : t < T) (hpo : ¬ p = o) (R : R_m h P T K Y S) (W : R_w P T K Y S) : mo_goSell (nI p) (nI o) (nI t) h = some (S_price S t, px_w (px_w (px_w (px_w h 52 (6 + o) (S 2 o - S_price S t)) 52 (6 + p) (S 2 p + S_price S t)) 52 (32 + t) (nI o)) 52 (42 + t) (S 9 t ||| (nI 1 <<< (nI o &&& 31)))) := by
  have R' := R
  have h6 := W.1
  have h10 := W.2.1
  obtain ⟨⟨mP, mT, mK, mY, m0, m3, m5, m7, m10⟩, ⟨a1, a2, a4, a8, a6, a9⟩⟩ := R
  unfold mo_goSell mo_goSell_35 mo_goSell_60
  simp (disch := omega) only [mo_priceOf_s ht R' W, a2, a9, bn_le, bn_lt, bn_eq, bn_le0, bn_0le, bn_lt0, bn_0lt, bn_eq0, bn_0eq, bn_eqm, bn_mlt0, bn_0lem, bn_m0, bn_mle0, bn_ltm, bn_mlt, bn_mle, bn_lem, nI_add, pk_mul, pk_sub, nI_clamp, B_n_nI, bn_0, bc_0, bc_m1, bc_1, bc_2, bc_3, bc_4, bc_5, bc_6, bc_7, bc_8, bc_9, bc_10, bc_11, bc_12, bc_13, bc_16, bc_22, bc_24, bc_32, bc_40, bc_41, bc_42, bc_43, bc_44, bc_45, bc_47, bc_48, bc_52, bc_57, bc_58, bc_59, bc_60, bc_61, bc_62, bc_63, bc_64, bc_76, bc_80, bc_97, bc_99, bc_105, bc_106, bc_107, bc_108, bc_109, bc_110, bc_111, bc_112, bc_113, bc_114, bc_115, bc_116, bc_117, bc_118, bc_119, bc_120, bc_121, bc_122, bc_255, bc_256, bc_400, bc_572, bc_999, bc_1024, bc_10000, bc_m2, bc_m3, bc_m8, bc_m100, bc_m200, B_bind, B_ift, po_52, pz_52, po_53, pz_53, po_54, pz_54, po_55, pz_55, po_56, pz_56, po_57, pz_57, po_58, pz_58, po_59, pz_59, po_60, pz_60, po_61, pz_61, po_62, pz_62, po_63, pz_63, po_64, pz_64, po_65, pz_65, po_66, pz_66, po_67, pz_67, po_68, pz_68, po_69, pz_69, po_70, pz_70, po_71, pz_71, po_72, pz_72, po_73, pz_73, po_74, pz_74, po_75, pz_75, po_76, pz_76, po_77, pz_77, po_78, pz_78, po_79, pz_79, po_80, pz_80, po_81, pz_81, B_w_same, B_w_cell, B_w_at, if_neg]
theorem S_sold_W {p o t : Nat} (hp : p < P) (ho : o < P) (ht : t < T) (hpo : ¬ p = o) (q1 : ¬ S 2 o < S_price S t) (q2 : ¬ nI 99 < S 2 p + S_price S t) (W : R_w P T K Y S) : R_w P T K Y (S_sold S p o t) := by
  obtain ⟨h6, h10, h5, hY2, hY60, w0, w1, w2, w4, w6, w7, w8, w9, w10, w11⟩ := W
  obtain ⟨cp, hcp, ep⟩ := w2 p hp
  obtain ⟨co, hco, eo⟩ := w2 o ho
  obtain ⟨L, hL, eL⟩ := w4 t ht
  have epr : S_price S t = nI ((L + 4) / 5) := by
    unfold S_price
    rw [eL, nI_add, pk_div (by omega) (by omega) (by omega)]
  rw [epr, eo, nI_ltI (by omega) (by omega)] at q1
  rw [epr, ep, nI_add, nI_ltI (by omega) (by omega)] at q2
  refine ⟨h6, h10, h5, hY2, hY60, w0, w1, fun k hk => ?_, w4, fun k hk => ?_, w7, w8, fun k hk => ?_, w10, w11⟩
  · show B_lt (S_sold S p o t 2 k) 100
    unfold S_sold
    rw [B_w_cell _ _ _ (by decide), B_w_cell _ _ _ (by decide), B_w_at, B_w_at]
    split
    · rw [eo, epr, pk_sub (by omega)]
      exact ⟨_, by omega, rfl⟩
    · split
      · rw [ep, epr, nI_add]
        exact ⟨_, by omega, rfl⟩
      · exact w2 k hk
  · show B_lt (S_sold S p o t 6 k) P
    unfold S_sold
    rw [B_w_cell _ _ _ (by decide), B_w_at]
    split
    · exact ⟨o, ho, rfl⟩
    · exact w6 k hk
  · show B_bit (S_sold S p o t 9 k) (B_n (S_sold S p o t 6 k)) = true
    unfold S_sold
    rw [B_w_at, B_w_cell _ _ _ (show (6 : Nat) ≠ 9 by decide), B_w_at]
    by_cases q : k = t
    · rw [if_pos q, if_pos q, B_n_nI (by omega), B_bit_or, B_bit_sh (by omega) (by omega)]
      simp
    · rw [if_neg q, if_neg q]
      exact w9 k hk
theorem B_sell (hI : Inv i h) (v0 v1 v2 : Int32) : ∃ r h1 h2, wu_sell v0 v1 v2 h = some (r, h1) ∧ mo_sell v0 v1 v2 h1 = some (r, h2) ∧ Inv (i + 5) h2 := by
  obtain ⟨P, T, K, Y, n, S, ev, I, r⟩ := hI
  have W := I.2.2.1
  have h6 := W.1
  have h10 := W.2.1
  have efm : ∀ hh, mo_sell v0 v1 v2 hh = px_bind (mo_refusesSell v0 v1 v2 (B_t0 hh)) fun z2 h3 => if 0 ≤ z2 then px_bind (mo_remember 52 h3) fun _ h5 => px_bind (mo_goSell v0 v1 v2 h5) fun z6 h7 => some (z6, h7) else some (z2, h3) := fun hh => by
    unfold mo_sell
    rw [bc_0]
    rfl
  by_cases hw : 0 ≤ S_nsell S P T v0 v1 v2
  · obtain ⟨p, o, t, hp, ho, ht, rfl, rfl, rfl, hpo, q1, q2⟩ := S_nsell_0 W hw
    obtain ⟨L, hL, eL⟩ := W.2.2.2.2.2.2.2.2.1 t ht
    have epr : S_price S t = nI ((L + 4) / 5) := by
      unfold S_price
      rw [eL, nI_add, pk_div (by omega) (by omega) (by omega)]
    refine B_gos (Z := S_sold S p o t) (why := S_nsell S P T (nI p) (nI o) (nI t)) (rr := S_price S t) (fc := wu_sell (nI p) (nI o) (nI t)) (fm0 := mo_refusesSell (nI p) (nI o) (nI t)) (fm := mo_sell (nI p) (nI o) (nI t)) (gc := hs_trade (nI p) (nI o) (nI t)) (gm := mo_goSell (nI p) (nI o) (nI t)) (hc := fun hh => px_w (px_w (px_w (px_w hh 6 p (S 2 p + S_price S t)) 6 o (S 2 o - S_price S t)) 10 t (nI o)) 13 t (S 9 t ||| (nI 1 <<< (nI o &&& 31)))) (hm := fun hh => px_w (px_w (px_w (px_w hh 52 (6 + o) (S 2 o - S_price S t)) 52 (6 + p) (S 2 p + S_price S t)) 52 (32 + t) (nI o)) 52 (42 + t) (S 9 t ||| (nI 1 <<< (nI o &&& 31)))) I r (fun _ => by rw [epr]; exact nI_pos (by omega)) (fun _ => S_sold_W hp ho ht hpo q1 q2 W) (fun i k h1 h2 h4 h6 h8 h9 => ?_) (fun hh => rfl) efm (fun q => absurd hw q) (fun _ hh R => ⟨hs_trade_0 hp ho ht hpo hw R W, ?_, fun a _ g6 _ g10 _ g13 => ?_⟩) (fun hh M => mo_refusesSell_s _ _ _ M W) (fun _ hh M => ⟨mo_goSell_s hp ho ht hpo M W, ?_, fun a ha => ?_⟩)
    · unfold S_sold
      rw [B_w_cell _ _ _ h9, B_w_cell _ _ _ h6, B_w_cell _ _ _ h2, B_w_cell _ _ _ h2]
    · exact (((R.w6 p _).w6 o _).w10 t _).w13 t _
    · try dsimp only
      rw [B_w_cell _ _ _ g13, B_w_cell _ _ _ g10, B_w_cell _ _ _ g6, B_w_cell _ _ _ g6]
    · have A := (((M.2.w2 h6 (p := o) (by omega) (S 2 o - S_price S t)).w2 h6 (p := p) (by omega) (S 2 p + S_price S t)).w6 h6 h10 (p := t) (by omega) (nI o)).w9 h6 h10 (p := t) (by omega) (S 9 t ||| (nI 1 <<< (nI o &&& 31)))
      rw [px_w_comm2 S (a := 2) (b := 2) (k := o) (j := p) _ _ (fun q => hpo q.symm)] at A
      exact A
    · try dsimp only
      rw [B_w_cell _ _ _ ha, B_w_cell _ _ _ ha, B_w_cell _ _ _ ha, B_w_cell _ _ _ ha]
  · refine B_gos (Z := S) (why := S_nsell S P T v0 v1 v2) (rr := 0) (fc := wu_sell v0 v1 v2) (fm0 := mo_refusesSell v0 v1 v2) (fm := mo_sell v0 v1 v2) (gc := hs_trade v0 v1 v2) (gm := mo_goSell v0 v1 v2) (hc := id) (hm := id) I r (fun q => absurd q hw) (fun q => absurd q hw) (fun _ _ _ _ _ _ _ _ => rfl) (fun hh => rfl) efm (fun q hh R => ?_) (fun q => absurd q hw) (fun hh M => mo_refusesSell_s _ _ _ M W) (fun q => absurd q hw)
    unfold hs_trade
    rw [hs_whyNotSell_s _ _ _ R W, B_bind, if_neg q]
end TRADE
