/-! Layer B: who sets off, with what -/
def S_beg (S : pH) (P : Nat) (x1 x2 x3 : Int32) : Bool := B_is x1 P && B_is x3 2 && !decide (S 1 (B_n x1) = x3) && (decide (x2 = -1) || (B_is x1 P && B_is x2 P && !decide (x1 = x2) && decide (S 1 (B_n x1) = S 1 (B_n x2))))
def S_abd (x1 x2 : Int32) : Int32 := (nI 1 <<< (x1 &&& 31)) ||| (if x2 = -1 then 0 else nI 1 <<< (x2 &&& 31))
def B_ld (h : pH) (ab st bk yd : Int32) : pH := px_w (px_w (px_w (px_w (px_w h 22 6 ab) 22 7 st) 22 8 bk) 22 9 yd) 22 5 0
theorem B_ld_fr (h : pH) (ab st bk yd : Int32) : B_fr B_sc h (B_ld h ab st bk yd) := (((((B_fr.refl _ h).w rfl).w rfl).w rfl).w rfl).w rfl
theorem S_abd_ne {p : Nat} (hp : p < 32) (x2 : Int32) : ¬ S_abd (nI p) x2 = 0 := fun q => by
  have h1 : B_bit (S_abd (nI p) x2) p = true := by
    unfold S_abd
    rw [B_bit_or, B_bit_sh hp hp]
    simp
  rw [q, B_bit_0] at h1
  cases h1
section CROSS
variable {h : pH} {P T K Y a : Nat} {S : pH}
theorem cr_load_s {p b : Nat} {ab : Int32} (hp : p < 2 + K) (hb : b < 2) (R : R_c h P T K Y S) (W : R_w P T K Y S) : cr_load ab (nI p) (nI b) h = some (0, B_ld h ab (nI p) (nI b) (nI (S_dist S Y p b))) := by
  unfold cr_load
  have R3 : R_c (px_w (px_w (px_w h 22 6 ab) 22 7 (nI p)) 22 8 (nI b)) P T K Y S := R.sm ((((B_sm.refl h).w rfl).w rfl).w rfl)
  simp only [rv_between_s hp (show b < 2 + K by omega) R3 W, B_bind, bc_0, bc_m1, bc_1, bc_2, bc_3, bc_4, bc_5, bc_6, bc_7, bc_8, bc_9, bc_10, bc_11, bc_12, bc_13, bc_16, bc_22, bc_24, bc_32, bc_40, bc_41, bc_42, bc_43, bc_44, bc_45, bc_47, bc_48, bc_52, bc_57, bc_58, bc_59, bc_60, bc_61, bc_62, bc_63, bc_64, bc_76, bc_80, bc_97, bc_99, bc_105, bc_106, bc_107, bc_108, bc_109, bc_110, bc_111, bc_112, bc_113, bc_114, bc_115, bc_116, bc_117, bc_118, bc_119, bc_120, bc_121, bc_122, bc_255, bc_256, bc_400, bc_572, bc_999, bc_1024, bc_10000, bc_m2, bc_m3, bc_m8, bc_m100, bc_m200]
  rfl
theorem cr_begin_s (x1 x2 x3 : Int32) (R : R_c h P T K Y S) (W : R_w P T K Y S) : cr_begin x1 x2 x3 h = if S_beg S P x1 x2 x3 = true then some (nI 1, B_ld h (S_abd x1 x2) (S 1 (B_n x1)) x3 (nI (S_dist S Y (B_n (S 1 (B_n x1))) (B_n x3)))) else some (0, h) := by
  have R' := R
  have W' := W
  obtain ⟨hP, hT, hK, hY, c0, c1, c2, c3, c4, c5, c6, c7, c8, c9, c10⟩ := R
  obtain ⟨h6, h10, h5, hY2, hY60, w0, w1, w2, w4, w6, w7, w8, w9, w10, w11⟩ := W
  unfold cr_begin S_beg S_abd
  rw [hs_hasPerson_eq x1 hP h6, B_bind]
  cases hx : B_is x1 P with
  | false => simp [cr_begin_20, bc_0, bc_m1, bc_1, bc_2, bc_3, bc_4, bc_5, bc_6, bc_7, bc_8, bc_9, bc_10, bc_11, bc_12, bc_13, bc_16, bc_22, bc_24, bc_32, bc_40, bc_41, bc_42, bc_43, bc_44, bc_45, bc_47, bc_48, bc_52, bc_57, bc_58, bc_59, bc_60, bc_61, bc_62, bc_63, bc_64, bc_76, bc_80, bc_97, bc_99, bc_105, bc_106, bc_107, bc_108, bc_109, bc_110, bc_111, bc_112, bc_113, bc_114, bc_115, bc_116, bc_117, bc_118, bc_119, bc_120, bc_121, bc_122, bc_255, bc_256, bc_400, bc_572, bc_999, bc_1024, bc_10000, bc_m2, bc_m3, bc_m8, bc_m100, bc_m200, B_bind, B_bind_if, B_ift, B_bz0, B_bz1, B_01_bz, B_01_e0, B_01_e1, if_pos, if_neg, reduceIte, Bool.false_eq_true, Bool.true_eq_false, B_01_f]
  | true =>
    obtain ⟨p, hp, rfl⟩ := B_is_ex hx (by omega)
    obtain ⟨q, hq, eq⟩ := w1 p hp
    cases hb : B_is x3 2 with
    | false =>
      have hb' := hb
      rw [B_is_2a] at hb'
      simp only [Bool.or_eq_false_iff, decide_eq_false_iff_not] at hb'
      simp [cr_begin_20, bc_0, bc_m1, bc_1, bc_2, bc_3, bc_4, bc_5, bc_6, bc_7, bc_8, bc_9, bc_10, bc_11, bc_12, bc_13, bc_16, bc_22, bc_24, bc_32, bc_40, bc_41, bc_42, bc_43, bc_44, bc_45, bc_47, bc_48, bc_52, bc_57, bc_58, bc_59, bc_60, bc_61, bc_62, bc_63, bc_64, bc_76, bc_80, bc_97, bc_99, bc_105, bc_106, bc_107, bc_108, bc_109, bc_110, bc_111, bc_112, bc_113, bc_114, bc_115, bc_116, bc_117, bc_118, bc_119, bc_120, bc_121, bc_122, bc_255, bc_256, bc_400, bc_572, bc_999, bc_1024, bc_10000, bc_m2, bc_m3, bc_m8, bc_m100, bc_m200, B_bind, B_bind_if, B_ift, B_bz0, B_bz1, B_01_bz, B_01_e0, B_01_e1, if_pos, if_neg, reduceIte, Bool.false_eq_true, Bool.true_eq_false, B_01_t, hb'.1, hb'.2, nI_eq]
    | true =>
      obtain ⟨b, hb2, rfl⟩ := B_is_ex hb (by omega)
      have e22 : (if nI b = 0 then cr_begin_22 (nI p) x2 (nI b) h else if nI b = px_c 1 then cr_begin_22 (nI p) x2 (nI b) h else cr_begin_20 h) = cr_begin_22 (nI p) x2 (nI b) h := by
        have : b = 0 ∨ b = 1 := by omega
        rcases this with rfl | rfl
        · rfl
        · rw [bc_1]
          rfl
      have e0 : ¬ B_01 true = 0 := by decide
      rw [if_neg e0, e22]
      unfold cr_begin_22
      simp (disch := omega) only [c1, eq, bn_le, bn_lt, bn_eq, bn_le0, bn_0le, bn_lt0, bn_0lt, bn_eq0, bn_0eq, bn_eqm, bn_mlt0, bn_0lem, bn_m0, bn_mle0, bn_ltm, bn_mlt, bn_mle, bn_lem, nI_add, pk_mul, pk_sub, nI_clamp, B_n_nI, bn_0, bc_0, bc_m1, bc_1, bc_2, bc_3, bc_4, bc_5, bc_6, bc_7, bc_8, bc_9, bc_10, bc_11, bc_12, bc_13, bc_16, bc_22, bc_24, bc_32, bc_40, bc_41, bc_42, bc_43, bc_44, bc_45, bc_47, bc_48, bc_52, bc_57, bc_58, bc_59, bc_60, bc_61, bc_62, bc_63, bc_64, bc_76, bc_80, bc_97, bc_99, bc_105, bc_106, bc_107, bc_108, bc_109, bc_110, bc_111, bc_112, bc_113, bc_114, bc_115, bc_116, bc_117, bc_118, bc_119, bc_120, bc_121, bc_122, bc_255, bc_256, bc_400, bc_572, bc_999, bc_1024, bc_10000, bc_m2, bc_m3, bc_m8, bc_m100, bc_m200, B_bind, B_bind_if, B_ift, B_bz0, B_bz1, B_01_bz, B_01_e0, B_01_e1, if_pos, if_neg, reduceIte, Bool.false_eq_true, Bool.true_eq_false, wa_4, wz_4, wa_5, wz_5, wa_6, wz_6, wa_7, wz_7, wa_8, wz_8, wa_9, wz_9, wa_10, wz_10, wa_11, wz_11, wa_12, wz_12, wa_13, wz_13, wa_15, wz_15, wa_16, wz_16, wa_18, wz_18, wa_19, wz_19, wa_20, wz_20, wa_23, wz_23, wa_24, wz_24, wa_26, wz_26, wa_27, wz_27, wa_28, wz_28, wa_29, wz_29, wa_30, wz_30, wa_31, wz_31, wa_32, wz_32, wa_34, wz_34, wa_35, wz_35, wa_36, wz_36, wa_37, wz_37, wa_38, wz_38, wa_39, wz_39, wa_40, wz_40, wa_42, wz_42, wa_44, wz_44, wa_46, wz_46, wa_48, wz_48, wa_49, wz_49, wa_50, wz_50, Bool.true_and]
      have hld : ∀ s0 s1 : Int32, cr_begin_100 (nI b) (nI q) s0 s1 h = some (nI 1, B_ld h (s1 ||| s0) (nI q) (nI b) (nI (S_dist S Y q b))) := by
        intro s0 s1
        unfold cr_begin_100
        rw [cr_load_s hq hb2 R' W', B_bind, bc_1]
        rfl
      by_cases hqb : q = b
      · subst hqb
        by_cases hm : x2 = -1
        · simp [hm, cr_begin_45, cr_begin_82, bc_0, bc_m1, bc_1, bc_2, bc_3, bc_4, bc_5, bc_6, bc_7, bc_8, bc_9, bc_10, bc_11, bc_12, bc_13, bc_16, bc_22, bc_24, bc_32, bc_40, bc_41, bc_42, bc_43, bc_44, bc_45, bc_47, bc_48, bc_52, bc_57, bc_58, bc_59, bc_60, bc_61, bc_62, bc_63, bc_64, bc_76, bc_80, bc_97, bc_99, bc_105, bc_106, bc_107, bc_108, bc_109, bc_110, bc_111, bc_112, bc_113, bc_114, bc_115, bc_116, bc_117, bc_118, bc_119, bc_120, bc_121, bc_122, bc_255, bc_256, bc_400, bc_572, bc_999, bc_1024, bc_10000, bc_m2, bc_m3, bc_m8, bc_m100, bc_m200, B_bz0]
        · simp [hm, cr_begin_45, cr_begin_82, bc_0, bc_m1, bc_1, bc_2, bc_3, bc_4, bc_5, bc_6, bc_7, bc_8, bc_9, bc_10, bc_11, bc_12, bc_13, bc_16, bc_22, bc_24, bc_32, bc_40, bc_41, bc_42, bc_43, bc_44, bc_45, bc_47, bc_48, bc_52, bc_57, bc_58, bc_59, bc_60, bc_61, bc_62, bc_63, bc_64, bc_76, bc_80, bc_97, bc_99, bc_105, bc_106, bc_107, bc_108, bc_109, bc_110, bc_111, bc_112, bc_113, bc_114, bc_115, bc_116, bc_117, bc_118, bc_119, bc_120, bc_121, bc_122, bc_255, bc_256, bc_400, bc_572, bc_999, bc_1024, bc_10000, bc_m2, bc_m3, bc_m8, bc_m100, bc_m200, B_bz0]
      · have hqb' : ¬ nI q = nI b := fun e => hqb ((nI_eq (by omega) (by omega)).mp e)
        by_cases hm : x2 = -1
        · simp [hm, cr_begin_45, cr_begin_84, hqb, hqb', bc_0, bc_m1, bc_1, bc_2, bc_3, bc_4, bc_5, bc_6, bc_7, bc_8, bc_9, bc_10, bc_11, bc_12, bc_13, bc_16, bc_22, bc_24, bc_32, bc_40, bc_41, bc_42, bc_43, bc_44, bc_45, bc_47, bc_48, bc_52, bc_57, bc_58, bc_59, bc_60, bc_61, bc_62, bc_63, bc_64, bc_76, bc_80, bc_97, bc_99, bc_105, bc_106, bc_107, bc_108, bc_109, bc_110, bc_111, bc_112, bc_113, bc_114, bc_115, bc_116, bc_117, bc_118, bc_119, bc_120, bc_121, bc_122, bc_255, bc_256, bc_400, bc_572, bc_999, bc_1024, bc_10000, bc_m2, bc_m3, bc_m8, bc_m100, bc_m200, hld, nI_eq, bn_eq0]
        · cases hx2 : B_is x2 P with
          | false =>
            simp [hm, cr_begin_45, cr_begin_82, hqb, hqb', bc_0, bc_m1, bc_1, bc_2, bc_3, bc_4, bc_5, bc_6, bc_7, bc_8, bc_9, bc_10, bc_11, bc_12, bc_13, bc_16, bc_22, bc_24, bc_32, bc_40, bc_41, bc_42, bc_43, bc_44, bc_45, bc_47, bc_48, bc_52, bc_57, bc_58, bc_59, bc_60, bc_61, bc_62, bc_63, bc_64, bc_76, bc_80, bc_97, bc_99, bc_105, bc_106, bc_107, bc_108, bc_109, bc_110, bc_111, bc_112, bc_113, bc_114, bc_115, bc_116, bc_117, bc_118, bc_119, bc_120, bc_121, bc_122, bc_255, bc_256, bc_400, bc_572, bc_999, bc_1024, bc_10000, bc_m2, bc_m3, bc_m8, bc_m100, bc_m200, hs_areTwo_s _ _ R' W', hx, hx2, B_bind, B_01_f, B_bz0]
          | true =>
            obtain ⟨o, ho, rfl⟩ := B_is_ex hx2 (by omega)
            by_cases hpo : p = o
            · subst hpo
              simp [hm, cr_begin_45, cr_begin_82, hqb, hqb', bc_0, bc_m1, bc_1, bc_2, bc_3, bc_4, bc_5, bc_6, bc_7, bc_8, bc_9, bc_10, bc_11, bc_12, bc_13, bc_16, bc_22, bc_24, bc_32, bc_40, bc_41, bc_42, bc_43, bc_44, bc_45, bc_47, bc_48, bc_52, bc_57, bc_58, bc_59, bc_60, bc_61, bc_62, bc_63, bc_64, bc_76, bc_80, bc_97, bc_99, bc_105, bc_106, bc_107, bc_108, bc_109, bc_110, bc_111, bc_112, bc_113, bc_114, bc_115, bc_116, bc_117, bc_118, bc_119, bc_120, bc_121, bc_122, bc_255, bc_256, bc_400, bc_572, bc_999, bc_1024, bc_10000, bc_m2, bc_m3, bc_m8, bc_m100, bc_m200, hs_areTwo_s _ _ R' W', B_bind, B_01_f, B_bz0]
            · have hpo' : ¬ nI p = nI o := fun e => hpo ((nI_eq (by omega) (by omega)).mp e)
              have e1 : B_n (nI o) = o := B_n_nI (by omega)
              by_cases hto : S 1 p = S 1 o
              · have hto' : S 1 o = nI q := by rw [← hto, eq]
                have ht2 := hs_areTogether_s hp ho R' W'
                rw [decide_eq_true hto] at ht2
                simp [hm, cr_begin_45, cr_begin_82, cr_begin_84, hqb, hqb', bc_0, bc_m1, bc_1, bc_2, bc_3, bc_4, bc_5, bc_6, bc_7, bc_8, bc_9, bc_10, bc_11, bc_12, bc_13, bc_16, bc_22, bc_24, bc_32, bc_40, bc_41, bc_42, bc_43, bc_44, bc_45, bc_47, bc_48, bc_52, bc_57, bc_58, bc_59, bc_60, bc_61, bc_62, bc_63, bc_64, bc_76, bc_80, bc_97, bc_99, bc_105, bc_106, bc_107, bc_108, bc_109, bc_110, bc_111, bc_112, bc_113, bc_114, bc_115, bc_116, bc_117, bc_118, bc_119, bc_120, bc_121, bc_122, bc_255, bc_256, bc_400, bc_572, bc_999, bc_1024, bc_10000, bc_m2, bc_m3, bc_m8, bc_m100, bc_m200, hs_areTwo_s _ _ R' W', B_bind, B_01_t, B_bz0, hx, hx2, hpo', ht2, hld, e1, hto', bn_10]
              · have hto' : ¬ nI q = S 1 o := by rw [← eq]; exact hto
                have ht2 := hs_areTogether_s hp ho R' W'
                rw [decide_eq_false hto] at ht2
                simp [hm, cr_begin_45, cr_begin_82, cr_begin_84, hqb, hqb', bc_0, bc_m1, bc_1, bc_2, bc_3, bc_4, bc_5, bc_6, bc_7, bc_8, bc_9, bc_10, bc_11, bc_12, bc_13, bc_16, bc_22, bc_24, bc_32, bc_40, bc_41, bc_42, bc_43, bc_44, bc_45, bc_47, bc_48, bc_52, bc_57, bc_58, bc_59, bc_60, bc_61, bc_62, bc_63, bc_64, bc_76, bc_80, bc_97, bc_99, bc_105, bc_106, bc_107, bc_108, bc_109, bc_110, bc_111, bc_112, bc_113, bc_114, bc_115, bc_116, bc_117, bc_118, bc_119, bc_120, bc_121, bc_122, bc_255, bc_256, bc_400, bc_572, bc_999, bc_1024, bc_10000, bc_m2, bc_m3, bc_m8, bc_m100, bc_m200, hs_areTwo_s _ _ R' W', B_bind, B_01_t, B_01_f, B_bz0, hx, hx2, hpo', ht2, hld, e1, hto', bn_10]
theorem mo_aboardOf_s (x1 x2 x3 : Int32) (R : R_m h P T K Y S) (W : R_w P T K Y S) : mo_aboardOf x1 x2 x3 h = some (if S_beg S P x1 x2 x3 = true then S_abd x1 x2 else 0, h) := by
  have R' := R
  have W' := W
  obtain ⟨⟨mP, mT, mK, mY, m0, m3, m5, m7, m10⟩, ⟨a1, a2, a4, a8, a6, a9⟩⟩ := R
  obtain ⟨h6, h10, h5, hY2, hY60, w0, w1, w2, w4, w6, w7, w8, w9, w10, w11⟩ := W
  unfold mo_aboardOf S_beg S_abd
  have e58 : mo_aboardOf_58 x1 x2 h = some (0, h) := by
    simp only [mo_aboardOf_58, mo_aboardOf_59, mo_aboardOf_86, bc_0, bc_m1, bc_1, bc_2, bc_3, bc_4, bc_5, bc_6, bc_7, bc_8, bc_9, bc_10, bc_11, bc_12, bc_13, bc_16, bc_22, bc_24, bc_32, bc_40, bc_41, bc_42, bc_43, bc_44, bc_45, bc_47, bc_48, bc_52, bc_57, bc_58, bc_59, bc_60, bc_61, bc_62, bc_63, bc_64, bc_76, bc_80, bc_97, bc_99, bc_105, bc_106, bc_107, bc_108, bc_109, bc_110, bc_111, bc_112, bc_113, bc_114, bc_115, bc_116, bc_117, bc_118, bc_119, bc_120, bc_121, bc_122, bc_255, bc_256, bc_400, bc_572, bc_999, bc_1024, bc_10000, bc_m2, bc_m3, bc_m8, bc_m100, bc_m200, B_bind, B_bind_if, B_ift, B_bz0, B_bz1, B_01_bz, B_01_e0, B_01_e1, if_pos, if_neg, reduceIte, Bool.false_eq_true, Bool.true_eq_false]
  have e59 : mo_aboardOf_59 x1 x2 (nI 1) h = some ((nI 1 <<< (x1 &&& 31)) ||| (if x2 = -1 then 0 else nI 1 <<< (x2 &&& 31)), h) := by
    have : ¬ nI 1 = 0 := by decide
    simp only [mo_aboardOf_59, mo_aboardOf_85, mo_aboardOf_86, bc_0, bc_m1, bc_1, bc_2, bc_3, bc_4, bc_5, bc_6, bc_7, bc_8, bc_9, bc_10, bc_11, bc_12, bc_13, bc_16, bc_22, bc_24, bc_32, bc_40, bc_41, bc_42, bc_43, bc_44, bc_45, bc_47, bc_48, bc_52, bc_57, bc_58, bc_59, bc_60, bc_61, bc_62, bc_63, bc_64, bc_76, bc_80, bc_97, bc_99, bc_105, bc_106, bc_107, bc_108, bc_109, bc_110, bc_111, bc_112, bc_113, bc_114, bc_115, bc_116, bc_117, bc_118, bc_119, bc_120, bc_121, bc_122, bc_255, bc_256, bc_400, bc_572, bc_999, bc_1024, bc_10000, bc_m2, bc_m3, bc_m8, bc_m100, bc_m200, this, if_false]
    split <;> rfl
  rw [mo_isPerson_eq x1 mP h6, B_bind]
  cases hx : B_is x1 P with
  | false => simp [e58, B_01_f]
  | true =>
    obtain ⟨p, hp, rfl⟩ := B_is_ex hx (by omega)
    have e37 : mo_aboardOf_37 (nI p) x2 x3 h = some (if (B_is x3 2 && !decide (S 1 p = x3)) = true then (nI 1 <<< (nI p &&& 31)) ||| (if x2 = -1 then 0 else nI 1 <<< (x2 &&& 31)) else 0, h) := by
      unfold mo_aboardOf_37
      rw [mo_isBank_eq, B_bind]
      cases hb : B_is x3 2 with
      | false => simp [e58, B_01_f]
      | true =>
        simp (disch := omega) only [a1, bn_le, bn_lt, bn_eq, bn_le0, bn_0le, bn_lt0, bn_0lt, bn_eq0, bn_0eq, bn_eqm, bn_mlt0, bn_0lem, bn_m0, bn_mle0, bn_ltm, bn_mlt, bn_mle, bn_lem, nI_add, pk_mul, pk_sub, nI_clamp, B_n_nI, bn_0, bc_0, bc_m1, bc_1, bc_2, bc_3, bc_4, bc_5, bc_6, bc_7, bc_8, bc_9, bc_10, bc_11, bc_12, bc_13, bc_16, bc_22, bc_24, bc_32, bc_40, bc_41, bc_42, bc_43, bc_44, bc_45, bc_47, bc_48, bc_52, bc_57, bc_58, bc_59, bc_60, bc_61, bc_62, bc_63, bc_64, bc_76, bc_80, bc_97, bc_99, bc_105, bc_106, bc_107, bc_108, bc_109, bc_110, bc_111, bc_112, bc_113, bc_114, bc_115, bc_116, bc_117, bc_118, bc_119, bc_120, bc_121, bc_122, bc_255, bc_256, bc_400, bc_572, bc_999, bc_1024, bc_10000, bc_m2, bc_m3, bc_m8, bc_m100, bc_m200, B_bind, B_bind_if, B_ift, B_bz0, B_bz1, B_01_bz, B_01_e0, B_01_e1, if_pos, if_neg, reduceIte, Bool.false_eq_true, Bool.true_eq_false, po_52, pz_52, po_53, pz_53, po_54, pz_54, po_55, pz_55, po_56, pz_56, po_57, pz_57, po_58, pz_58, po_59, pz_59, po_60, pz_60, po_61, pz_61, po_62, pz_62, po_63, pz_63, po_64, pz_64, po_65, pz_65, po_66, pz_66, po_67, pz_67, po_68, pz_68, po_69, pz_69, po_70, pz_70, po_71, pz_71, po_72, pz_72, po_73, pz_73, po_74, pz_74, po_75, pz_75, po_76, pz_76, po_77, pz_77, po_78, pz_78, po_79, pz_79, po_80, pz_80, po_81, pz_81, B_01_t, e58, e59]
        by_cases hq : S 1 p = x3 <;> simp [hq]
    have e1 : B_n (nI p) = p := B_n_nI (by omega)
    have e0 : ¬ B_01 true = 0 := by decide
    rw [if_neg e0, bc_m1, e37, e1]
    by_cases hm : x2 = -1
    · simp [hm]
    · rw [if_neg hm, mo_areTwo_s _ _ R'.1 W', B_bind]
      cases hx2 : B_is x2 P with
      | false => simp [hm, hx, e58, B_01_f]
      | true =>
        obtain ⟨o, ho, rfl⟩ := B_is_ex hx2 (by omega)
        have e2 : B_n (nI o) = o := B_n_nI (by omega)
        by_cases hpo : nI p = nI o
        · have hpo2 := (nI_eq (by omega) (by omega)).mp hpo
          subst hpo2
          simp [hm, hx, e58, B_01_f]
        · simp (disch := omega) only [a1, hx, hpo, bn_le, bn_lt, bn_eq, bn_le0, bn_0le, bn_lt0, bn_0lt, bn_eq0, bn_0eq, bn_eqm, bn_mlt0, bn_0lem, bn_m0, bn_mle0, bn_ltm, bn_mlt, bn_mle, bn_lem, nI_add, pk_mul, pk_sub, nI_clamp, B_n_nI, bn_0, bc_0, bc_m1, bc_1, bc_2, bc_3, bc_4, bc_5, bc_6, bc_7, bc_8, bc_9, bc_10, bc_11, bc_12, bc_13, bc_16, bc_22, bc_24, bc_32, bc_40, bc_41, bc_42, bc_43, bc_44, bc_45, bc_47, bc_48, bc_52, bc_57, bc_58, bc_59, bc_60, bc_61, bc_62, bc_63, bc_64, bc_76, bc_80, bc_97, bc_99, bc_105, bc_106, bc_107, bc_108, bc_109, bc_110, bc_111, bc_112, bc_113, bc_114, bc_115, bc_116, bc_117, bc_118, bc_119, bc_120, bc_121, bc_122, bc_255, bc_256, bc_400, bc_572, bc_999, bc_1024, bc_10000, bc_m2, bc_m3, bc_m8, bc_m100, bc_m200, B_bind, B_bind_if, B_ift, B_bz0, B_bz1, B_01_bz, B_01_e0, B_01_e1, if_pos, if_neg, reduceIte, Bool.false_eq_true, Bool.true_eq_false, po_52, pz_52, po_53, pz_53, po_54, pz_54, po_55, pz_55, po_56, pz_56, po_57, pz_57, po_58, pz_58, po_59, pz_59, po_60, pz_60, po_61, pz_61, po_62, pz_62, po_63, pz_63, po_64, pz_64, po_65, pz_65, po_66, pz_66, po_67, pz_67, po_68, pz_68, po_69, pz_69, po_70, pz_70, po_71, pz_71, po_72, pz_72, po_73, pz_73, po_74, pz_74, po_75, pz_75, po_76, pz_76, po_77, pz_77, po_78, pz_78, po_79, pz_79, po_80, pz_80, po_81, pz_81, decide_false, Bool.not_false, Bool.true_and, B_01_t, e2, hm, e58]
          by_cases hto : S 1 p = S 1 o
          · simp [hto, e37, hm]
          · simp [hto]
end CROSS
