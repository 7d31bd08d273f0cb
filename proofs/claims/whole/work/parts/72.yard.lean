/-! Layer B: yards, the islet where they are put ashore -/
def S_yd (S : pH) (Y p : Nat) : Nat := if p = 0 then 0 else if p = 1 then Y else B_n (S 10 (p - 2))
def S_dist (S : pH) (Y p b : Nat) : Nat := (S_yd S Y p - S_yd S Y b) + (S_yd S Y b - S_yd S Y p)
theorem S_yd_le {P T K Y : Nat} {S : pH} (W : R_w P T K Y S) {p : Nat} (hp : p < 2 + K) : S_yd S Y p ≤ Y ∧ Y ≤ 60 := by
  obtain ⟨h6, h10, h5, hY2, hY60, w0, w1, w2, w4, w6, w7, w8, w9, w10, w11⟩ := W
  refine ⟨?_, hY60⟩
  unfold S_yd
  by_cases h0 : p = 0
  · rw [if_pos h0]
    omega
  · rw [if_neg h0]
    by_cases h1 : p = 1
    · rw [if_pos h1]
      omega
    · rw [if_neg h1]
      obtain ⟨v, v1, v2, e⟩ := w10 (p - 2) (by omega)
      rw [e, B_n_nI (by omega)]
      omega
theorem S_is {P T K Y : Nat} {S : pH} (W : R_w P T K Y S) {k : Nat} (hk : k < K) : S 10 k = nI (S_yd S Y (2 + k)) ∧ 1 ≤ S_yd S Y (2 + k) ∧ S_yd S Y (2 + k) < Y := by
  obtain ⟨h6, h10, h5, hY2, hY60, w0, w1, w2, w4, w6, w7, w8, w9, w10, w11⟩ := W
  obtain ⟨v, v1, v2, e⟩ := w10 k hk
  have : S_yd S Y (2 + k) = v := by
    unfold S_yd
    rw [if_neg (by omega), if_neg (by omega), show 2 + k - 2 = k by omega, e, B_n_nI (by omega)]
  rw [this]
  exact ⟨e, v1, v2⟩
theorem S_rise {P T K Y : Nat} {S : pH} (W : R_w P T K Y S) {j k : Nat} (hk : k < K) (hj : j < k) : S_yd S Y (2 + j) < S_yd S Y (2 + k) := by
  have w11 := W.2.2.2.2.2.2.2.2.2.2.2.2.2.2
  have := w11 k hk j hj
  unfold S_yd
  rw [if_neg (by omega), if_neg (by omega), if_neg (by omega), if_neg (by omega), show 2 + k - 2 = k by omega, show 2 + j - 2 = j by omega]
  exact this
section YARD
variable {h : pH} {P T K Y : Nat} {S : pH}
theorem rv_yardOf_s {p : Nat} (hp : p < 2 + K) (R : R_c h P T K Y S) (W : R_w P T K Y S) : rv_yardOf (nI p) h = some (nI (S_yd S Y p), h) := by
  obtain ⟨hP, hT, hK, hY, c0, c1, c2, c3, c4, c5, c6, c7, c8, c9, c10⟩ := R
  have h5 := W.2.2.1
  unfold rv_yardOf
  by_cases h0 : p = 0
  · subst h0
    simp (disch := omega) only [rv_yardOf_30, S_yd, bn_le, bn_lt, bn_eq, bn_le0, bn_0le, bn_lt0, bn_0lt, bn_eq0, bn_0eq, bn_eqm, bn_mlt0, bn_0lem, bn_m0, bn_mle0, bn_ltm, bn_mlt, bn_mle, bn_lem, nI_add, pk_mul, pk_sub, nI_clamp, B_n_nI, bn_0, bc_0, bc_m1, bc_1, bc_2, bc_3, bc_4, bc_5, bc_6, bc_7, bc_8, bc_9, bc_10, bc_11, bc_12, bc_13, bc_16, bc_22, bc_24, bc_32, bc_40, bc_41, bc_42, bc_43, bc_44, bc_45, bc_47, bc_48, bc_52, bc_57, bc_58, bc_59, bc_60, bc_61, bc_62, bc_63, bc_64, bc_76, bc_80, bc_97, bc_99, bc_105, bc_106, bc_107, bc_108, bc_109, bc_110, bc_111, bc_112, bc_113, bc_114, bc_115, bc_116, bc_117, bc_118, bc_119, bc_120, bc_121, bc_122, bc_255, bc_256, bc_400, bc_572, bc_999, bc_1024, bc_10000, bc_m2, bc_m3, bc_m8, bc_m100, bc_m200, B_bind, B_bind_if, B_ift, B_bz0, B_bz1, B_01_bz, B_01_e0, B_01_e1, if_pos, if_neg, reduceIte, Bool.false_eq_true, Bool.true_eq_false]
  · by_cases h1 : p = 1
    · subst h1
      simp (disch := omega) only [rv_yardOf_30, S_yd, hY, bn_le, bn_lt, bn_eq, bn_le0, bn_0le, bn_lt0, bn_0lt, bn_eq0, bn_0eq, bn_eqm, bn_mlt0, bn_0lem, bn_m0, bn_mle0, bn_ltm, bn_mlt, bn_mle, bn_lem, nI_add, pk_mul, pk_sub, nI_clamp, B_n_nI, bn_0, bc_0, bc_m1, bc_1, bc_2, bc_3, bc_4, bc_5, bc_6, bc_7, bc_8, bc_9, bc_10, bc_11, bc_12, bc_13, bc_16, bc_22, bc_24, bc_32, bc_40, bc_41, bc_42, bc_43, bc_44, bc_45, bc_47, bc_48, bc_52, bc_57, bc_58, bc_59, bc_60, bc_61, bc_62, bc_63, bc_64, bc_76, bc_80, bc_97, bc_99, bc_105, bc_106, bc_107, bc_108, bc_109, bc_110, bc_111, bc_112, bc_113, bc_114, bc_115, bc_116, bc_117, bc_118, bc_119, bc_120, bc_121, bc_122, bc_255, bc_256, bc_400, bc_572, bc_999, bc_1024, bc_10000, bc_m2, bc_m3, bc_m8, bc_m100, bc_m200, B_bind, B_bind_if, B_ift, B_bz0, B_bz1, B_01_bz, B_01_e0, B_01_e1, if_pos, if_neg, reduceIte, Bool.false_eq_true, Bool.true_eq_false]
    · obtain ⟨q, rfl⟩ : ∃ q, p = 2 + q := ⟨p - 2, by omega⟩
      have e := (S_is W (k := q) (by omega)).1
      simp (disch := omega) only [rv_yardOf_30, c10, Nat.add_sub_cancel_left, bn_le, bn_lt, bn_eq, bn_le0, bn_0le, bn_lt0, bn_0lt, bn_eq0, bn_0eq, bn_eqm, bn_mlt0, bn_0lem, bn_m0, bn_mle0, bn_ltm, bn_mlt, bn_mle, bn_lem, nI_add, pk_mul, pk_sub, nI_clamp, B_n_nI, bn_0, bc_0, bc_m1, bc_1, bc_2, bc_3, bc_4, bc_5, bc_6, bc_7, bc_8, bc_9, bc_10, bc_11, bc_12, bc_13, bc_16, bc_22, bc_24, bc_32, bc_40, bc_41, bc_42, bc_43, bc_44, bc_45, bc_47, bc_48, bc_52, bc_57, bc_58, bc_59, bc_60, bc_61, bc_62, bc_63, bc_64, bc_76, bc_80, bc_97, bc_99, bc_105, bc_106, bc_107, bc_108, bc_109, bc_110, bc_111, bc_112, bc_113, bc_114, bc_115, bc_116, bc_117, bc_118, bc_119, bc_120, bc_121, bc_122, bc_255, bc_256, bc_400, bc_572, bc_999, bc_1024, bc_10000, bc_m2, bc_m3, bc_m8, bc_m100, bc_m200, B_bind, B_bind_if, B_ift, B_bz0, B_bz1, B_01_bz, B_01_e0, B_01_e1, if_pos, if_neg, reduceIte, Bool.false_eq_true, Bool.true_eq_false, wa_4, wz_4, wa_5, wz_5, wa_6, wz_6, wa_7, wz_7, wa_8, wz_8, wa_9, wz_9, wa_10, wz_10, wa_11, wz_11, wa_12, wz_12, wa_13, wz_13, wa_15, wz_15, wa_16, wz_16, wa_18, wz_18, wa_19, wz_19, wa_20, wz_20, wa_23, wz_23, wa_24, wz_24, wa_26, wz_26, wa_27, wz_27, wa_28, wz_28, wa_29, wz_29, wa_30, wz_30, wa_31, wz_31, wa_32, wz_32, wa_34, wz_34, wa_35, wz_35, wa_36, wz_36, wa_37, wz_37, wa_38, wz_38, wa_39, wz_39, wa_40, wz_40, wa_42, wz_42, wa_44, wz_44, wa_46, wz_46, wa_48, wz_48, wa_49, wz_49, wa_50, wz_50, e]
theorem mo_yardOf_s {p : Nat} (hp : p < 2 + K) (R : R_k h P T K Y S) (W : R_w P T K Y S) : mo_yardOf (nI p) h = some (nI (S_yd S Y p), h) := by
  obtain ⟨mP, mT, mK, mY, m0, m3, m5, m7, m10⟩ := R
  have h5 := W.2.2.1
  unfold mo_yardOf
  by_cases h0 : p = 0
  · subst h0
    simp (disch := omega) only [mo_yardOf_28, S_yd, bn_le, bn_lt, bn_eq, bn_le0, bn_0le, bn_lt0, bn_0lt, bn_eq0, bn_0eq, bn_eqm, bn_mlt0, bn_0lem, bn_m0, bn_mle0, bn_ltm, bn_mlt, bn_mle, bn_lem, nI_add, pk_mul, pk_sub, nI_clamp, B_n_nI, bn_0, bc_0, bc_m1, bc_1, bc_2, bc_3, bc_4, bc_5, bc_6, bc_7, bc_8, bc_9, bc_10, bc_11, bc_12, bc_13, bc_16, bc_22, bc_24, bc_32, bc_40, bc_41, bc_42, bc_43, bc_44, bc_45, bc_47, bc_48, bc_52, bc_57, bc_58, bc_59, bc_60, bc_61, bc_62, bc_63, bc_64, bc_76, bc_80, bc_97, bc_99, bc_105, bc_106, bc_107, bc_108, bc_109, bc_110, bc_111, bc_112, bc_113, bc_114, bc_115, bc_116, bc_117, bc_118, bc_119, bc_120, bc_121, bc_122, bc_255, bc_256, bc_400, bc_572, bc_999, bc_1024, bc_10000, bc_m2, bc_m3, bc_m8, bc_m100, bc_m200, B_bind, B_bind_if, B_ift, B_bz0, B_bz1, B_01_bz, B_01_e0, B_01_e1, if_pos, if_neg, reduceIte, Bool.false_eq_true, Bool.true_eq_false]
  · by_cases h1 : p = 1
    · subst h1
      simp (disch := omega) only [mo_yardOf_28, S_yd, mY, bn_le, bn_lt, bn_eq, bn_le0, bn_0le, bn_lt0, bn_0lt, bn_eq0, bn_0eq, bn_eqm, bn_mlt0, bn_0lem, bn_m0, bn_mle0, bn_ltm, bn_mlt, bn_mle, bn_lem, nI_add, pk_mul, pk_sub, nI_clamp, B_n_nI, bn_0, bc_0, bc_m1, bc_1, bc_2, bc_3, bc_4, bc_5, bc_6, bc_7, bc_8, bc_9, bc_10, bc_11, bc_12, bc_13, bc_16, bc_22, bc_24, bc_32, bc_40, bc_41, bc_42, bc_43, bc_44, bc_45, bc_47, bc_48, bc_52, bc_57, bc_58, bc_59, bc_60, bc_61, bc_62, bc_63, bc_64, bc_76, bc_80, bc_97, bc_99, bc_105, bc_106, bc_107, bc_108, bc_109, bc_110, bc_111, bc_112, bc_113, bc_114, bc_115, bc_116, bc_117, bc_118, bc_119, bc_120, bc_121, bc_122, bc_255, bc_256, bc_400, bc_572, bc_999, bc_1024, bc_10000, bc_m2, bc_m3, bc_m8, bc_m100, bc_m200, B_bind, B_bind_if, B_ift, B_bz0, B_bz1, B_01_bz, B_01_e0, B_01_e1, if_pos, if_neg, reduceIte, Bool.false_eq_true, Bool.true_eq_false]
    · obtain ⟨q, rfl⟩ : ∃ q, p = 2 + q := ⟨p - 2, by omega⟩
      have e := (S_is W (k := q) (by omega)).1
      simp (disch := omega) only [mo_yardOf_28, m10, Nat.add_sub_cancel_left, bn_le, bn_lt, bn_eq, bn_le0, bn_0le, bn_lt0, bn_0lt, bn_eq0, bn_0eq, bn_eqm, bn_mlt0, bn_0lem, bn_m0, bn_mle0, bn_ltm, bn_mlt, bn_mle, bn_lem, nI_add, pk_mul, pk_sub, nI_clamp, B_n_nI, bn_0, bc_0, bc_m1, bc_1, bc_2, bc_3, bc_4, bc_5, bc_6, bc_7, bc_8, bc_9, bc_10, bc_11, bc_12, bc_13, bc_16, bc_22, bc_24, bc_32, bc_40, bc_41, bc_42, bc_43, bc_44, bc_45, bc_47, bc_48, bc_52, bc_57, bc_58, bc_59, bc_60, bc_61, bc_62, bc_63, bc_64, bc_76, bc_80, bc_97, bc_99, bc_105, bc_106, bc_107, bc_108, bc_109, bc_110, bc_111, bc_112, bc_113, bc_114, bc_115, bc_116, bc_117, bc_118, bc_119, bc_120, bc_121, bc_122, bc_255, bc_256, bc_400, bc_572, bc_999, bc_1024, bc_10000, bc_m2, bc_m3, bc_m8, bc_m100, bc_m200, B_bind, B_bind_if, B_ift, B_bz0, B_bz1, B_01_bz, B_01_e0, B_01_e1, if_pos, if_neg, reduceIte, Bool.false_eq_true, Bool.true_eq_false, po_52, pz_52, po_53, pz_53, po_54, pz_54, po_55, pz_55, po_56, pz_56, po_57, pz_57, po_58, pz_58, po_59, pz_59, po_60, pz_60, po_61, pz_61, po_62, pz_62, po_63, pz_63, po_64, pz_64, po_65, pz_65, po_66, pz_66, po_67, pz_67, po_68, pz_68, po_69, pz_69, po_70, pz_70, po_71, pz_71, po_72, pz_72, po_73, pz_73, po_74, pz_74, po_75, pz_75, po_76, pz_76, po_77, pz_77, po_78, pz_78, po_79, pz_79, po_80, pz_80, po_81, pz_81, e]
theorem B_absd {a b : Nat} (ha : a < 2 ^ 30) (hb : b < 2 ^ 30) : (if 0 ≤ nI a - nI b then nI a - nI b else -(nI a - nI b)) = nI ((a - b) + (b - a)) := by
  have h1 : (nI a - nI b).toInt = (a : Int) - b := pk_sub_toInt ha hb
  by_cases hq : 0 ≤ nI a - nI b
  · rw [if_pos hq]
    rw [Int32.le_iff_toInt_le, h1] at hq
    change (0 : Int) ≤ _ at hq
    rw [pk_sub (by omega)]
    congr 1
    omega
  · rw [if_neg hq]
    rw [Int32.le_iff_toInt_le, h1] at hq
    change ¬ (0 : Int) ≤ _ at hq
    rw [Int32.neg_sub, pk_sub (by omega)]
    congr 1
    omega
theorem rv_between_s {p b : Nat} (hp : p < 2 + K) (hb : b < 2 + K) (R : R_c h P T K Y S) (W : R_w P T K Y S) : rv_between (nI p) (nI b) h = some (nI (S_dist S Y p b), h) := by
  have l1 := S_yd_le W hp
  have l2 := S_yd_le W hb
  unfold rv_between S_dist
  simp only [rv_yardOf_s hp R W, rv_yardOf_s hb R W, rv_between_22, B_bind]
  rw [B_some_if, B_absd (by omega) (by omega)]
theorem mo_distance_s {p b : Nat} (hp : p < 2 + K) (hb : b < 2 + K) (R : R_k h P T K Y S) (W : R_w P T K Y S) : mo_distance (nI p) (nI b) h = some (nI (S_dist S Y p b), h) := by
  have l1 := S_yd_le W hp
  have l2 := S_yd_le W hb
  unfold mo_distance S_dist
  simp only [mo_yardOf_s hp R W, mo_yardOf_s hb R W, B_bind]
  have e : px_abs (nI (S_yd S Y p) - nI (S_yd S Y b)) = (if 0 ≤ nI (S_yd S Y p) - nI (S_yd S Y b) then nI (S_yd S Y p) - nI (S_yd S Y b) else -(nI (S_yd S Y p) - nI (S_yd S Y b))) := by
    unfold px_abs
    rw [Int32.zero_sub]
  rw [e, B_absd (by omega) (by omega)]
/-- an islet that is passed -/
def S_ps (S : pH) (Y st b c k : Nat) : Bool := if b = 1 then decide (st < S_yd S Y (2 + k)) && decide (S_yd S Y (2 + k) ≤ st + c) else decide (S_yd S Y (2 + k) < st) && decide (st ≤ S_yd S Y (2 + k) + c)
def S_lg (S : pH) (Y p b c : Nat) : Nat → Int32 → Int32 := fun k L => if S_ps S Y (S_yd S Y p) b c k = true then (if b = 1 then nI (2 + k) else if L = nI p then nI (2 + k) else L) else L
def S_land (S : pH) (Y K p b c : Nat) : Int32 := B_fold (S_lg S Y p b c) 0 K (nI p)
theorem bn_lts {y a c : Nat} (hy : y < 2 ^ 29) (ha : a < 2 ^ 29) (hc : c < 2 ^ 29) : (nI y < nI a - nI c) = (y + c < a) := propext (by
  have h1 : (nI a - nI c).toInt = (a : Int) - c := pk_sub_toInt (by omega) (by omega)
  rw [Int32.lt_iff_toInt_lt, h1, nI_toInt (by omega)]
  omega)
theorem S_land_lt {P T K Y : Nat} {S : pH} {p : Nat} (hp : p < 2 + K) (b c : Nat) : B_lt (S_land S Y K p b c) (2 + K) := by
  have := B_fold_inv (g := S_lg S Y p b c) (fun k L => B_lt L (2 + K)) K 0 (nI p) ⟨p, hp, rfl⟩ (fun j L _ hj hL => by
    dsimp only [S_lg]
    split
    · split
      · exact ⟨2 + j, by omega, rfl⟩
      · split
        · exact ⟨2 + j, by omega, rfl⟩
        · exact hL
    · exact hL)
  exact this
theorem rv_landing_s {p b c : Nat} (hp : p < 2 + K) (hb : b < 2) (hc : c ≤ 60) (R : R_c h P T K Y S) (W : R_w P T K Y S) : rv_landing (nI p) (nI b) (nI c) h = some (S_land S Y K p b c, h) := by
  have l1 := S_yd_le W hp
  have R' := R
  obtain ⟨hP, hT, hK, hY, c0, c1, c2, c3, c4, c5, c6, c7, c8, c9, c10⟩ := R
  have h5 := W.2.2.1
  unfold rv_landing S_land
  rw [rv_yardOf_s hp R' W, B_bind, bc_0, ← nI_0]
  refine (B_loop0 (fun n L k => rv_landing_13 n (nI p) (nI b) (nI c) (nI (S_yd S Y p)) L (nI k) h) K (S_lg S Y p b c) (fun L => some (L, h)) (by omega) (fun n L k hk => ?_) (fun n L => ?_) (nI p))
  · obtain ⟨e1, e2, e3⟩ := S_is W hk
    have l2 := S_yd_le W (p := 2 + k) (by omega)
    have e4 : S_ps S Y (S_yd S Y p) b c k = (if b = 1 then decide (S_yd S Y p < S_yd S Y (2 + k)) && decide (S_yd S Y (2 + k) ≤ S_yd S Y p + c) else decide (S_yd S Y (2 + k) < S_yd S Y p) && decide (S_yd S Y p ≤ S_yd S Y (2 + k) + c)) := rfl
    dsimp only [S_lg]
    rw [e4]
    generalize S_yd S Y (2 + k) = y at *
    generalize S_yd S Y p = st at *
    have eb : b = 0 ∨ b = 1 := by omega
    rcases eb with rfl | rfl
    · simp (disch := omega) only [rv_landing_13, rv_landing_58, rv_landing_59, rv_landing_85, rv_landing_86, rv_landing_104, rv_landing_110, hK, c10, e1, bn_lts, bn_le, bn_lt, bn_eq, bn_le0, bn_0le, bn_lt0, bn_0lt, bn_eq0, bn_0eq, bn_eqm, bn_mlt0, bn_0lem, bn_m0, bn_mle0, bn_ltm, bn_mlt, bn_mle, bn_lem, nI_add, pk_mul, pk_sub, nI_clamp, B_n_nI, bn_0, bc_0, bc_m1, bc_1, bc_2, bc_3, bc_4, bc_5, bc_6, bc_7, bc_8, bc_9, bc_10, bc_11, bc_12, bc_13, bc_16, bc_22, bc_24, bc_32, bc_40, bc_41, bc_42, bc_43, bc_44, bc_45, bc_47, bc_48, bc_52, bc_57, bc_58, bc_59, bc_60, bc_61, bc_62, bc_63, bc_64, bc_76, bc_80, bc_97, bc_99, bc_105, bc_106, bc_107, bc_108, bc_109, bc_110, bc_111, bc_112, bc_113, bc_114, bc_115, bc_116, bc_117, bc_118, bc_119, bc_120, bc_121, bc_122, bc_255, bc_256, bc_400, bc_572, bc_999, bc_1024, bc_10000, bc_m2, bc_m3, bc_m8, bc_m100, bc_m200, B_bind, B_bind_if, B_ift, B_bz0, B_bz1, B_01_bz, B_01_e0, B_01_e1, if_pos, if_neg, reduceIte, Bool.false_eq_true, Bool.true_eq_false, wa_4, wz_4, wa_5, wz_5, wa_6, wz_6, wa_7, wz_7, wa_8, wz_8, wa_9, wz_9, wa_10, wz_10, wa_11, wz_11, wa_12, wz_12, wa_13, wz_13, wa_15, wz_15, wa_16, wz_16, wa_18, wz_18, wa_19, wz_19, wa_20, wz_20, wa_23, wz_23, wa_24, wz_24, wa_26, wz_26, wa_27, wz_27, wa_28, wz_28, wa_29, wz_29, wa_30, wz_30, wa_31, wz_31, wa_32, wz_32, wa_34, wz_34, wa_35, wz_35, wa_36, wz_36, wa_37, wz_37, wa_38, wz_38, wa_39, wz_39, wa_40, wz_40, wa_42, wz_42, wa_44, wz_44, wa_46, wz_46, wa_48, wz_48, wa_49, wz_49, wa_50, wz_50]
      by_cases q1 : st ≤ y
      · have q2 : ¬ y < st := by omega
        simp [q1, q2]
      · have q2 : y < st := by omega
        by_cases q3 : y + c < st
        · have q4 : ¬ st ≤ y + c := by omega
          simp [q1, q2, q3, q4]
        · have q4 : st ≤ y + c := by omega
          by_cases q5 : L = nI p
          · simp [q1, q2, q3, q4, q5, bn_10]
          · simp [q1, q2, q3, q4, q5, bn_10]
    · simp (disch := omega) only [rv_landing_13, rv_landing_58, rv_landing_59, rv_landing_85, rv_landing_86, rv_landing_104, rv_landing_110, hK, c10, e1, bn_lts, bn_le, bn_lt, bn_eq, bn_le0, bn_0le, bn_lt0, bn_0lt, bn_eq0, bn_0eq, bn_eqm, bn_mlt0, bn_0lem, bn_m0, bn_mle0, bn_ltm, bn_mlt, bn_mle, bn_lem, nI_add, pk_mul, pk_sub, nI_clamp, B_n_nI, bn_0, bc_0, bc_m1, bc_1, bc_2, bc_3, bc_4, bc_5, bc_6, bc_7, bc_8, bc_9, bc_10, bc_11, bc_12, bc_13, bc_16, bc_22, bc_24, bc_32, bc_40, bc_41, bc_42, bc_43, bc_44, bc_45, bc_47, bc_48, bc_52, bc_57, bc_58, bc_59, bc_60, bc_61, bc_62, bc_63, bc_64, bc_76, bc_80, bc_97, bc_99, bc_105, bc_106, bc_107, bc_108, bc_109, bc_110, bc_111, bc_112, bc_113, bc_114, bc_115, bc_116, bc_117, bc_118, bc_119, bc_120, bc_121, bc_122, bc_255, bc_256, bc_400, bc_572, bc_999, bc_1024, bc_10000, bc_m2, bc_m3, bc_m8, bc_m100, bc_m200, B_bind, B_bind_if, B_ift, B_bz0, B_bz1, B_01_bz, B_01_e0, B_01_e1, if_pos, if_neg, reduceIte, Bool.false_eq_true, Bool.true_eq_false, wa_4, wz_4, wa_5, wz_5, wa_6, wz_6, wa_7, wz_7, wa_8, wz_8, wa_9, wz_9, wa_10, wz_10, wa_11, wz_11, wa_12, wz_12, wa_13, wz_13, wa_15, wz_15, wa_16, wz_16, wa_18, wz_18, wa_19, wz_19, wa_20, wz_20, wa_23, wz_23, wa_24, wz_24, wa_26, wz_26, wa_27, wz_27, wa_28, wz_28, wa_29, wz_29, wa_30, wz_30, wa_31, wz_31, wa_32, wz_32, wa_34, wz_34, wa_35, wz_35, wa_36, wz_36, wa_37, wz_37, wa_38, wz_38, wa_39, wz_39, wa_40, wz_40, wa_42, wz_42, wa_44, wz_44, wa_46, wz_46, wa_48, wz_48, wa_49, wz_49, wa_50, wz_50]
      by_cases q1 : y ≤ st
      · have q2 : ¬ st < y := by omega
        simp [q1, q2]
      · have q2 : st < y := by omega
        by_cases q3 : st + c < y
        · have q4 : ¬ y ≤ st + c := by omega
          simp [q1, q2, q3, q4]
        · have q4 : y ≤ st + c := by omega
          simp [q1, q2, q3, q4, bn_10]
  · simp (disch := omega) only [rv_landing_13, hK, bn_le, bn_lt, bn_eq, bn_le0, bn_0le, bn_lt0, bn_0lt, bn_eq0, bn_0eq, bn_eqm, bn_mlt0, bn_0lem, bn_m0, bn_mle0, bn_ltm, bn_mlt, bn_mle, bn_lem, nI_add, pk_mul, pk_sub, nI_clamp, B_n_nI, bn_0, bc_0, bc_m1, bc_1, bc_2, bc_3, bc_4, bc_5, bc_6, bc_7, bc_8, bc_9, bc_10, bc_11, bc_12, bc_13, bc_16, bc_22, bc_24, bc_32, bc_40, bc_41, bc_42, bc_43, bc_44, bc_45, bc_47, bc_48, bc_52, bc_57, bc_58, bc_59, bc_60, bc_61, bc_62, bc_63, bc_64, bc_76, bc_80, bc_97, bc_99, bc_105, bc_106, bc_107, bc_108, bc_109, bc_110, bc_111, bc_112, bc_113, bc_114, bc_115, bc_116, bc_117, bc_118, bc_119, bc_120, bc_121, bc_122, bc_255, bc_256, bc_400, bc_572, bc_999, bc_1024, bc_10000, bc_m2, bc_m3, bc_m8, bc_m100, bc_m200, B_bind, B_bind_if, B_ift, B_bz0, B_bz1, B_01_bz, B_01_e0, B_01_e1, if_pos, if_neg, reduceIte, Bool.false_eq_true, Bool.true_eq_false]
theorem mo_stranded_loop {p b c : Nat} (hp : p < 2 + K) (hb : b < 2) (hc : c ≤ 60) (hcr : h 51 31 = nI c) (R : R_k h P T K Y S) (W : R_w P T K Y S) : ∀ (m k n e : Nat) (L : Int32), k + m = K → m < n → e ≤ 1000000 → (b = 1 → ∀ j, k ≤ j → j < K → S_ps S Y (S_yd S Y p) b c j = true → c + S_yd S Y p < e + S_yd S Y (2 + j)) → (b = 0 → (L = nI p → ∀ j, k ≤ j → j < K → S_ps S Y (S_yd S Y p) b c j = true → c + S_yd S Y (2 + j) < e + S_yd S Y p) ∧ (¬ L = nI p → ∀ j, k ≤ j → j < K → S_ps S Y (S_yd S Y p) b c j = true → e + S_yd S Y p ≤ c + S_yd S Y (2 + j))) → mo_stranded_17 n (nI b) (nI (S_yd S Y p)) L (nI e) (nI k) h = some (B_fold (S_lg S Y p b c) k m L, h) := by
  have l1 := S_yd_le W hp
  obtain ⟨mP, mT, mK, mY, m0, m3, m5, m7, m10⟩ := R
  have h5 := W.2.2.1
  intro m
  induction m with
  | zero =>
    intro k n e L hk hn he H1 H0
    obtain ⟨n, rfl⟩ : ∃ n', n = n' + 1 := ⟨n - 1, by omega⟩
    simp (disch := omega) only [mo_stranded_17, mK, bn_le, bn_lt, bn_eq, bn_le0, bn_0le, bn_lt0, bn_0lt, bn_eq0, bn_0eq, bn_eqm, bn_mlt0, bn_0lem, bn_m0, bn_mle0, bn_ltm, bn_mlt, bn_mle, bn_lem, nI_add, pk_mul, pk_sub, nI_clamp, B_n_nI, bn_0, bc_0, bc_m1, bc_1, bc_2, bc_3, bc_4, bc_5, bc_6, bc_7, bc_8, bc_9, bc_10, bc_11, bc_12, bc_13, bc_16, bc_22, bc_24, bc_32, bc_40, bc_41, bc_42, bc_43, bc_44, bc_45, bc_47, bc_48, bc_52, bc_57, bc_58, bc_59, bc_60, bc_61, bc_62, bc_63, bc_64, bc_76, bc_80, bc_97, bc_99, bc_105, bc_106, bc_107, bc_108, bc_109, bc_110, bc_111, bc_112, bc_113, bc_114, bc_115, bc_116, bc_117, bc_118, bc_119, bc_120, bc_121, bc_122, bc_255, bc_256, bc_400, bc_572, bc_999, bc_1024, bc_10000, bc_m2, bc_m3, bc_m8, bc_m100, bc_m200, B_bind, B_bind_if, B_ift, B_bz0, B_bz1, B_01_bz, B_01_e0, B_01_e1, if_pos, if_neg, reduceIte, Bool.false_eq_true, Bool.true_eq_false]
    rfl
  | succ m ih =>
    intro k n e L hk hn he H1 H0
    obtain ⟨n, rfl⟩ : ∃ n', n = n' + 1 := ⟨n - 1, by omega⟩
    obtain ⟨e1, e2, e3⟩ := S_is W (k := k) (by omega)
    have l2 := S_yd_le W (p := 2 + k) (by omega)
    have e4 : S_ps S Y (S_yd S Y p) b c k = (if b = 1 then decide (S_yd S Y p < S_yd S Y (2 + k)) && decide (S_yd S Y (2 + k) ≤ S_yd S Y p + c) else decide (S_yd S Y (2 + k) < S_yd S Y p) && decide (S_yd S Y p ≤ S_yd S Y (2 + k) + c)) := rfl
    have hstep : B_fold (S_lg S Y p b c) k (m + 1) L = B_fold (S_lg S Y p b c) (k + 1) m (S_lg S Y p b c k L) := rfl
    rw [hstep]
    have eb : b = 0 ∨ b = 1 := by omega
    have t2 : (nI 1).toInt = 1 := rfl
    have t3 : (nI c).toInt = (c : Int) := nI_toInt (by omega)
    rcases eb with rfl | rfl
    · have t1 : (nI (S_yd S Y p) - nI (S_yd S Y (2 + k))).toInt = (S_yd S Y p : Int) - S_yd S Y (2 + k) := pk_sub_toInt (by omega) (by omega)
      simp only [nI_0] at ih
      by_cases q : S_ps S Y (S_yd S Y p) 0 c k = true
      · have q' := q
        rw [e4] at q'
        simp only [Nat.zero_ne_one, if_false, Bool.and_eq_true, decide_eq_true_eq] at q'
        obtain ⟨q1, q2⟩ := q'
        by_cases qL : L = nI p
        · have q8 := (H0 rfl).1 qL k (Nat.le_refl _) (by omega) q
          have hg : S_lg S Y p 0 c k L = nI (2 + k) := by
            dsimp only [S_lg]
            rw [if_pos q, if_neg (by decide), if_pos qL]
          simp (disch := omega) only [mo_stranded_17, mo_stranded_52, mo_stranded_97, mK, m10, e1, hcr, mo_in_eq, t1, t2, nI_toInt, ite_not, bn_le, bn_lt, bn_eq, bn_le0, bn_0le, bn_lt0, bn_0lt, bn_eq0, bn_0eq, bn_eqm, bn_mlt0, bn_0lem, bn_m0, bn_mle0, bn_ltm, bn_mlt, bn_mle, bn_lem, nI_add, pk_mul, pk_sub, nI_clamp, B_n_nI, bn_0, bc_0, bc_m1, bc_1, bc_2, bc_3, bc_4, bc_5, bc_6, bc_7, bc_8, bc_9, bc_10, bc_11, bc_12, bc_13, bc_16, bc_22, bc_24, bc_32, bc_40, bc_41, bc_42, bc_43, bc_44, bc_45, bc_47, bc_48, bc_52, bc_57, bc_58, bc_59, bc_60, bc_61, bc_62, bc_63, bc_64, bc_76, bc_80, bc_97, bc_99, bc_105, bc_106, bc_107, bc_108, bc_109, bc_110, bc_111, bc_112, bc_113, bc_114, bc_115, bc_116, bc_117, bc_118, bc_119, bc_120, bc_121, bc_122, bc_255, bc_256, bc_400, bc_572, bc_999, bc_1024, bc_10000, bc_m2, bc_m3, bc_m8, bc_m100, bc_m200, B_bind, B_bind_if, B_ift, B_bz0, B_bz1, B_01_bz, B_01_e0, B_01_e1, if_pos, if_neg, reduceIte, Bool.false_eq_true, Bool.true_eq_false, po_52, pz_52, po_53, pz_53, po_54, pz_54, po_55, pz_55, po_56, pz_56, po_57, pz_57, po_58, pz_58, po_59, pz_59, po_60, pz_60, po_61, pz_61, po_62, pz_62, po_63, pz_63, po_64, pz_64, po_65, pz_65, po_66, pz_66, po_67, pz_67, po_68, pz_68, po_69, pz_69, po_70, pz_70, po_71, pz_71, po_72, pz_72, po_73, pz_73, po_74, pz_74, po_75, pz_75, po_76, pz_76, po_77, pz_77, po_78, pz_78, po_79, pz_79, po_80, pz_80, po_81, pz_81, decide_eq_false_iff_not]
          rw [hg]
          refine ih (k + 1) n _ (nI (2 + k)) (by omega) (by omega) (by omega) (fun q => absurd q (by decide)) (fun _ => ⟨fun q9 => ?_, fun _ j j1 j2 j3 => ?_⟩)
          · rw [nI_eq (by omega) (by omega)] at q9
            subst q9
            exact absurd q1 (by omega)
          · have := S_rise W (j := k) (k := j) j2 (by omega)
            have := S_yd_le W (p := 2 + j) (by omega)
            omega
        · have q8 := (H0 rfl).2 qL k (Nat.le_refl _) (by omega) q
          have hg : S_lg S Y p 0 c k L = L := by
            dsimp only [S_lg]
            rw [if_pos q, if_neg (by decide), if_neg qL]
          simp (disch := omega) only [mo_stranded_17, mo_stranded_52, mo_stranded_97, mK, m10, e1, hcr, mo_in_eq, t1, t2, nI_toInt, ite_not, bn_le, bn_lt, bn_eq, bn_le0, bn_0le, bn_lt0, bn_0lt, bn_eq0, bn_0eq, bn_eqm, bn_mlt0, bn_0lem, bn_m0, bn_mle0, bn_ltm, bn_mlt, bn_mle, bn_lem, nI_add, pk_mul, pk_sub, nI_clamp, B_n_nI, bn_0, bc_0, bc_m1, bc_1, bc_2, bc_3, bc_4, bc_5, bc_6, bc_7, bc_8, bc_9, bc_10, bc_11, bc_12, bc_13, bc_16, bc_22, bc_24, bc_32, bc_40, bc_41, bc_42, bc_43, bc_44, bc_45, bc_47, bc_48, bc_52, bc_57, bc_58, bc_59, bc_60, bc_61, bc_62, bc_63, bc_64, bc_76, bc_80, bc_97, bc_99, bc_105, bc_106, bc_107, bc_108, bc_109, bc_110, bc_111, bc_112, bc_113, bc_114, bc_115, bc_116, bc_117, bc_118, bc_119, bc_120, bc_121, bc_122, bc_255, bc_256, bc_400, bc_572, bc_999, bc_1024, bc_10000, bc_m2, bc_m3, bc_m8, bc_m100, bc_m200, B_bind, B_bind_if, B_ift, B_bz0, B_bz1, B_01_bz, B_01_e0, B_01_e1, if_pos, if_neg, reduceIte, Bool.false_eq_true, Bool.true_eq_false, po_52, pz_52, po_53, pz_53, po_54, pz_54, po_55, pz_55, po_56, pz_56, po_57, pz_57, po_58, pz_58, po_59, pz_59, po_60, pz_60, po_61, pz_61, po_62, pz_62, po_63, pz_63, po_64, pz_64, po_65, pz_65, po_66, pz_66, po_67, pz_67, po_68, pz_68, po_69, pz_69, po_70, pz_70, po_71, pz_71, po_72, pz_72, po_73, pz_73, po_74, pz_74, po_75, pz_75, po_76, pz_76, po_77, pz_77, po_78, pz_78, po_79, pz_79, po_80, pz_80, po_81, pz_81, decide_eq_false_iff_not]
          rw [hg]
          exact ih (k + 1) n e L (by omega) (by omega) he (fun q => absurd q (by decide)) (fun _ => ⟨fun q9 => absurd q9 qL, fun q9 j j1 j2 j3 => (H0 rfl).2 q9 j (by omega) j2 j3⟩)
      · have q' := q
        rw [e4] at q'
        simp only [Nat.zero_ne_one, if_false, Bool.and_eq_true, decide_eq_true_eq] at q'
        have hg : S_lg S Y p 0 c k L = L := by
          dsimp only [S_lg]
          rw [if_neg q]
        simp (disch := omega) only [mo_stranded_17, mo_stranded_52, mo_stranded_97, mK, m10, e1, hcr, mo_in_eq, t1, t2, nI_toInt, ite_not, bn_le, bn_lt, bn_eq, bn_le0, bn_0le, bn_lt0, bn_0lt, bn_eq0, bn_0eq, bn_eqm, bn_mlt0, bn_0lem, bn_m0, bn_mle0, bn_ltm, bn_mlt, bn_mle, bn_lem, nI_add, pk_mul, pk_sub, nI_clamp, B_n_nI, bn_0, bc_0, bc_m1, bc_1, bc_2, bc_3, bc_4, bc_5, bc_6, bc_7, bc_8, bc_9, bc_10, bc_11, bc_12, bc_13, bc_16, bc_22, bc_24, bc_32, bc_40, bc_41, bc_42, bc_43, bc_44, bc_45, bc_47, bc_48, bc_52, bc_57, bc_58, bc_59, bc_60, bc_61, bc_62, bc_63, bc_64, bc_76, bc_80, bc_97, bc_99, bc_105, bc_106, bc_107, bc_108, bc_109, bc_110, bc_111, bc_112, bc_113, bc_114, bc_115, bc_116, bc_117, bc_118, bc_119, bc_120, bc_121, bc_122, bc_255, bc_256, bc_400, bc_572, bc_999, bc_1024, bc_10000, bc_m2, bc_m3, bc_m8, bc_m100, bc_m200, B_bind, B_bind_if, B_ift, B_bz0, B_bz1, B_01_bz, B_01_e0, B_01_e1, if_pos, if_neg, reduceIte, Bool.false_eq_true, Bool.true_eq_false, po_52, pz_52, po_53, pz_53, po_54, pz_54, po_55, pz_55, po_56, pz_56, po_57, pz_57, po_58, pz_58, po_59, pz_59, po_60, pz_60, po_61, pz_61, po_62, pz_62, po_63, pz_63, po_64, pz_64, po_65, pz_65, po_66, pz_66, po_67, pz_67, po_68, pz_68, po_69, pz_69, po_70, pz_70, po_71, pz_71, po_72, pz_72, po_73, pz_73, po_74, pz_74, po_75, pz_75, po_76, pz_76, po_77, pz_77, po_78, pz_78, po_79, pz_79, po_80, pz_80, po_81, pz_81, decide_eq_false_iff_not]
        rw [hg]
        exact ih (k + 1) n e L (by omega) (by omega) he (fun q => absurd q (by decide)) (fun _ => ⟨fun q9 j j1 j2 j3 => (H0 rfl).1 q9 j (by omega) j2 j3, fun q9 j j1 j2 j3 => (H0 rfl).2 q9 j (by omega) j2 j3⟩)
    · have t1 : (nI (S_yd S Y (2 + k)) - nI (S_yd S Y p)).toInt = (S_yd S Y (2 + k) : Int) - S_yd S Y p := pk_sub_toInt (by omega) (by omega)
      by_cases q : S_ps S Y (S_yd S Y p) 1 c k = true
      · have q' := q
        rw [e4] at q'
        simp only [if_true, Bool.and_eq_true, decide_eq_true_eq] at q'
        obtain ⟨q1, q2⟩ := q'
        have q8 := H1 rfl k (Nat.le_refl _) (by omega) q
        have hg : S_lg S Y p 1 c k L = nI (2 + k) := by
          dsimp only [S_lg]
          rw [if_pos q, if_pos rfl]
        simp (disch := omega) only [mo_stranded_17, mo_stranded_52, mo_stranded_97, mK, m10, e1, hcr, mo_in_eq, t1, t2, nI_toInt, ite_not, bn_le, bn_lt, bn_eq, bn_le0, bn_0le, bn_lt0, bn_0lt, bn_eq0, bn_0eq, bn_eqm, bn_mlt0, bn_0lem, bn_m0, bn_mle0, bn_ltm, bn_mlt, bn_mle, bn_lem, nI_add, pk_mul, pk_sub, nI_clamp, B_n_nI, bn_0, bc_0, bc_m1, bc_1, bc_2, bc_3, bc_4, bc_5, bc_6, bc_7, bc_8, bc_9, bc_10, bc_11, bc_12, bc_13, bc_16, bc_22, bc_24, bc_32, bc_40, bc_41, bc_42, bc_43, bc_44, bc_45, bc_47, bc_48, bc_52, bc_57, bc_58, bc_59, bc_60, bc_61, bc_62, bc_63, bc_64, bc_76, bc_80, bc_97, bc_99, bc_105, bc_106, bc_107, bc_108, bc_109, bc_110, bc_111, bc_112, bc_113, bc_114, bc_115, bc_116, bc_117, bc_118, bc_119, bc_120, bc_121, bc_122, bc_255, bc_256, bc_400, bc_572, bc_999, bc_1024, bc_10000, bc_m2, bc_m3, bc_m8, bc_m100, bc_m200, B_bind, B_bind_if, B_ift, B_bz0, B_bz1, B_01_bz, B_01_e0, B_01_e1, if_pos, if_neg, reduceIte, Bool.false_eq_true, Bool.true_eq_false, po_52, pz_52, po_53, pz_53, po_54, pz_54, po_55, pz_55, po_56, pz_56, po_57, pz_57, po_58, pz_58, po_59, pz_59, po_60, pz_60, po_61, pz_61, po_62, pz_62, po_63, pz_63, po_64, pz_64, po_65, pz_65, po_66, pz_66, po_67, pz_67, po_68, pz_68, po_69, pz_69, po_70, pz_70, po_71, pz_71, po_72, pz_72, po_73, pz_73, po_74, pz_74, po_75, pz_75, po_76, pz_76, po_77, pz_77, po_78, pz_78, po_79, pz_79, po_80, pz_80, po_81, pz_81, decide_eq_false_iff_not]
        rw [hg]
        refine ih (k + 1) n _ (nI (2 + k)) (by omega) (by omega) (by omega) (fun _ j j1 j2 j3 => ?_) (fun q => absurd q (by decide))
        have := S_rise W (j := k) (k := j) j2 (by omega)
        omega
      · have q' := q
        rw [e4] at q'
        simp only [if_true, Bool.and_eq_true, decide_eq_true_eq] at q'
        have hg : S_lg S Y p 1 c k L = L := by
          dsimp only [S_lg]
          rw [if_neg q]
        simp (disch := omega) only [mo_stranded_17, mo_stranded_52, mo_stranded_97, mK, m10, e1, hcr, mo_in_eq, t1, t2, nI_toInt, ite_not, bn_le, bn_lt, bn_eq, bn_le0, bn_0le, bn_lt0, bn_0lt, bn_eq0, bn_0eq, bn_eqm, bn_mlt0, bn_0lem, bn_m0, bn_mle0, bn_ltm, bn_mlt, bn_mle, bn_lem, nI_add, pk_mul, pk_sub, nI_clamp, B_n_nI, bn_0, bc_0, bc_m1, bc_1, bc_2, bc_3, bc_4, bc_5, bc_6, bc_7, bc_8, bc_9, bc_10, bc_11, bc_12, bc_13, bc_16, bc_22, bc_24, bc_32, bc_40, bc_41, bc_42, bc_43, bc_44, bc_45, bc_47, bc_48, bc_52, bc_57, bc_58, bc_59, bc_60, bc_61, bc_62, bc_63, bc_64, bc_76, bc_80, bc_97, bc_99, bc_105, bc_106, bc_107, bc_108, bc_109, bc_110, bc_111, bc_112, bc_113, bc_114, bc_115, bc_116, bc_117, bc_118, bc_119, bc_120, bc_121, bc_122, bc_255, bc_256, bc_400, bc_572, bc_999, bc_1024, bc_10000, bc_m2, bc_m3, bc_m8, bc_m100, bc_m200, B_bind, B_bind_if, B_ift, B_bz0, B_bz1, B_01_bz, B_01_e0, B_01_e1, if_pos, if_neg, reduceIte, Bool.false_eq_true, Bool.true_eq_false, po_52, pz_52, po_53, pz_53, po_54, pz_54, po_55, pz_55, po_56, pz_56, po_57, pz_57, po_58, pz_58, po_59, pz_59, po_60, pz_60, po_61, pz_61, po_62, pz_62, po_63, pz_63, po_64, pz_64, po_65, pz_65, po_66, pz_66, po_67, pz_67, po_68, pz_68, po_69, pz_69, po_70, pz_70, po_71, pz_71, po_72, pz_72, po_73, pz_73, po_74, pz_74, po_75, pz_75, po_76, pz_76, po_77, pz_77, po_78, pz_78, po_79, pz_79, po_80, pz_80, po_81, pz_81, decide_eq_false_iff_not]
        rw [hg]
        exact ih (k + 1) n e L (by omega) (by omega) he (fun _ j j1 j2 j3 => H1 rfl j (by omega) j2 j3) (fun q => absurd q (by decide))
theorem mo_stranded_s {p b c : Nat} (hp : p < 2 + K) (hb : b < 2) (hc : c ≤ 60) (hcr : h 51 31 = nI c) (R : R_k h P T K Y S) (W : R_w P T K Y S) : mo_stranded (nI p) (nI b) h = some (S_land S Y K p b c, h) := by
  have h5 := W.2.2.1
  have l1 := S_yd_le W hp
  unfold mo_stranded S_land
  rw [mo_yardOf_s hp R W, B_bind, bc_0, ← nI_0]
  have ek : px_k 1000000 = nI 1000000 := px_k_eq _
  rw [ek]
  refine mo_stranded_loop hp hb hc hcr R W K 0 px_F 1000000 (nI p) (by omega) (px_F_lt (by omega)) (by omega) (fun _ j _ j2 _ => ?_) (fun _ => ⟨fun _ j _ j2 _ => ?_, fun q => absurd rfl q⟩)
  · have := S_yd_le W (p := 2 + j) (by omega)
    omega
  · have := S_yd_le W (p := 2 + j) (by omega)
    omega
end YARD
