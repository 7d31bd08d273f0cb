/-! Layer B: the row of things that is told -/
def C_row (h : pH) (r : List Nat) : Prop := h 22 5 = nI r.length ∧ r.length ≤ 6 ∧ ∀ k, k < r.length → h 23 k = nI (r.getD k 0)
def M_row (h : pH) (r : List Nat) : Prop := h 51 30 = nI r.length ∧ r.length ≤ 6 ∧ ∀ k, k < r.length → h 65 k = nI (r.getD k 0)
/-- a thing that can go behind the row r -/
def S_can (S : pH) (T : Nat) (ab : Int32) (r : List Nat) (x : Int32) : Bool := S_un S T ab x && !decide (S 4 (B_n x) = 0) && !(r.contains (B_n x))
def S_wds (S : pH) (r : List Nat) : Nat := (r.map fun t => B_n (S 4 t)).sum
theorem B_getD_app2 (l : List Nat) (x : Nat) {k : Nat} (hk : k < (l ++ [x]).length) : (l ++ [x]).getD k 0 = if k = l.length then x else l.getD k 0 := by
  rw [List.length_append, List.length_singleton] at hk
  rw [List.getD_eq_getElem?_getD, List.getD_eq_getElem?_getD, List.getElem?_append]
  by_cases h : k = l.length
  · subst h
    simp
  · rw [if_pos (by omega), if_neg h]
theorem B_contains {r : List Nat} {t : Nat} : r.contains t = true ↔ ∃ k, k < r.length ∧ r.getD k 0 = t := by
  rw [List.contains_iff_mem, List.mem_iff_getElem]
  constructor
  · rintro ⟨k, hk, e⟩
    refine ⟨k, hk, ?_⟩
    rw [List.getD_eq_getElem?_getD, List.getElem?_eq_getElem hk]
    exact e
  · rintro ⟨k, hk, e⟩
    refine ⟨k, hk, ?_⟩
    rw [List.getD_eq_getElem?_getD, List.getElem?_eq_getElem hk] at e
    exact e
/-- is t among the row from k on -/
def B_amo (r : List Nat) (t : Nat) : Nat → Nat → Bool
  | _, 0 => false
  | k, m + 1 => decide (r.getD k 0 = t) || B_amo r t (k + 1) m
theorem B_amo_iff (r : List Nat) (t : Nat) : ∀ m k, B_amo r t k m = true ↔ ∃ j, k ≤ j ∧ j < k + m ∧ r.getD j 0 = t := by
  intro m
  induction m with
  | zero =>
    intro k
    constructor
    · intro q
      cases q
    · rintro ⟨j, h1, h2, -⟩
      omega
  | succ m ih =>
    intro k
    unfold B_amo
    rw [Bool.or_eq_true, decide_eq_true_eq, ih (k + 1)]
    constructor
    · rintro (q | ⟨j, h1, h2, q⟩)
      · exact ⟨k, by omega, by omega, q⟩
      · exact ⟨j, by omega, by omega, q⟩
    · rintro ⟨j, h1, h2, q⟩
      by_cases e : j = k
      · subst e
        exact Or.inl q
      · exact Or.inr ⟨j, by omega, by omega, q⟩
theorem B_amo_c (r : List Nat) (t : Nat) : B_amo r t 0 r.length = r.contains t := by
  apply Bool.eq_iff_iff.mpr
  rw [B_amo_iff, B_contains]
  constructor
  · rintro ⟨j, h1, h2, q⟩
    exact ⟨j, by omega, q⟩
  · rintro ⟨j, h2, q⟩
    exact ⟨j, by omega, by omega, q⟩
section ROW
variable {h : pH} {P T K Y a : Nat} {S : pH} {r : List Nat} {ab : Int32}
def r_small (r : List Nat) : Prop := ∀ k, k < r.length → r.getD k 0 < 10
theorem r_small_app {r : List Nat} {t : Nat} (h : r_small r) (ht : t < 10) : r_small (r ++ [t]) := fun k hk => by
  rw [B_getD_app2 r t hk]
  split
  · exact ht
  · rw [List.length_append, List.length_singleton] at hk
    exact h k (by omega)
theorem cr_take_loop {t : Nat} (ht : t < 10) (hr : r_small r) (C : C_row h r) (h6 : r.length < 6) : ∀ (m k n : Nat), k + m = r.length → m < n → cr_take_42 n (nI t) (nI k) h = if B_amo r t k m = true then some (0, h) else some (nI 1, px_w (px_w h 23 r.length (nI t)) 22 5 (nI (r.length + 1))) := by
  obtain ⟨c1, c2, c3⟩ := C
  intro m
  induction m with
  | zero =>
    intro k n hk hn
    obtain ⟨n, rfl⟩ : ∃ n', n = n' + 1 := ⟨n - 1, by omega⟩
    have e5 : (px_w h 23 r.length (nI t)) 22 5 = nI r.length := by rw [B_w_cell _ _ _ (by decide), c1]
    simp (disch := omega) only [cr_take_42, c1, e5, B_amo, bn_le, bn_lt, bn_eq, bn_le0, bn_0le, bn_lt0, bn_0lt, bn_eq0, bn_0eq, bn_eqm, bn_mlt0, bn_0lem, bn_m0, bn_mle0, bn_ltm, bn_mlt, bn_mle, bn_lem, nI_add, pk_mul, pk_sub, nI_clamp, B_n_nI, bn_0, bc_0, bc_m1, bc_1, bc_2, bc_3, bc_4, bc_5, bc_6, bc_7, bc_8, bc_9, bc_10, bc_11, bc_12, bc_13, bc_16, bc_22, bc_24, bc_32, bc_40, bc_41, bc_42, bc_43, bc_44, bc_45, bc_47, bc_48, bc_52, bc_57, bc_58, bc_59, bc_60, bc_61, bc_62, bc_63, bc_64, bc_76, bc_80, bc_97, bc_99, bc_105, bc_106, bc_107, bc_108, bc_109, bc_110, bc_111, bc_112, bc_113, bc_114, bc_115, bc_116, bc_117, bc_118, bc_119, bc_120, bc_121, bc_122, bc_255, bc_256, bc_400, bc_572, bc_999, bc_1024, bc_10000, bc_m2, bc_m3, bc_m8, bc_m100, bc_m200, B_bind, B_bind_if, B_ift, B_bz0, B_bz1, B_01_bz, B_01_e0, B_01_e1, if_pos, if_neg, reduceIte, Bool.false_eq_true, Bool.true_eq_false, wp_4, wq_4, wp_5, wq_5, wp_6, wq_6, wp_7, wq_7, wp_8, wq_8, wp_9, wq_9, wp_10, wq_10, wp_11, wq_11, wp_12, wq_12, wp_13, wq_13, wp_15, wq_15, wp_16, wq_16, wp_18, wq_18, wp_19, wq_19, wp_20, wq_20, wp_23, wq_23, wp_24, wq_24, wp_26, wq_26, wp_27, wq_27, wp_28, wq_28, wp_29, wq_29, wp_30, wq_30, wp_31, wq_31, wp_32, wq_32, wp_34, wq_34, wp_35, wq_35, wp_36, wq_36, wp_37, wq_37, wp_38, wq_38, wp_39, wq_39, wp_40, wq_40, wp_42, wq_42, wp_44, wq_44, wp_46, wq_46, wp_48, wq_48, wp_49, wq_49, wp_50, wq_50]
  | succ m ih =>
    intro k n hk hn
    obtain ⟨n, rfl⟩ : ∃ n', n = n' + 1 := ⟨n - 1, by omega⟩
    have hr2 := hr k (by omega)
    have e9 := c3 k (by omega)
    have ea : B_amo r t k (m + 1) = (decide (r.getD k 0 = t) || B_amo r t (k + 1) m) := rfl
    rw [ea]
    generalize r.getD k 0 = z at *
    simp (disch := omega) only [cr_take_42, c1, e9, bn_le, bn_lt, bn_eq, bn_le0, bn_0le, bn_lt0, bn_0lt, bn_eq0, bn_0eq, bn_eqm, bn_mlt0, bn_0lem, bn_m0, bn_mle0, bn_ltm, bn_mlt, bn_mle, bn_lem, nI_add, pk_mul, pk_sub, nI_clamp, B_n_nI, bn_0, bc_0, bc_m1, bc_1, bc_2, bc_3, bc_4, bc_5, bc_6, bc_7, bc_8, bc_9, bc_10, bc_11, bc_12, bc_13, bc_16, bc_22, bc_24, bc_32, bc_40, bc_41, bc_42, bc_43, bc_44, bc_45, bc_47, bc_48, bc_52, bc_57, bc_58, bc_59, bc_60, bc_61, bc_62, bc_63, bc_64, bc_76, bc_80, bc_97, bc_99, bc_105, bc_106, bc_107, bc_108, bc_109, bc_110, bc_111, bc_112, bc_113, bc_114, bc_115, bc_116, bc_117, bc_118, bc_119, bc_120, bc_121, bc_122, bc_255, bc_256, bc_400, bc_572, bc_999, bc_1024, bc_10000, bc_m2, bc_m3, bc_m8, bc_m100, bc_m200, B_bind, B_bind_if, B_ift, B_bz0, B_bz1, B_01_bz, B_01_e0, B_01_e1, if_pos, if_neg, reduceIte, Bool.false_eq_true, Bool.true_eq_false, wa_4, wz_4, wa_5, wz_5, wa_6, wz_6, wa_7, wz_7, wa_8, wz_8, wa_9, wz_9, wa_10, wz_10, wa_11, wz_11, wa_12, wz_12, wa_13, wz_13, wa_15, wz_15, wa_16, wz_16, wa_18, wz_18, wa_19, wz_19, wa_20, wz_20, wa_23, wz_23, wa_24, wz_24, wa_26, wz_26, wa_27, wz_27, wa_28, wz_28, wa_29, wz_29, wa_30, wz_30, wa_31, wz_31, wa_32, wz_32, wa_34, wz_34, wa_35, wz_35, wa_36, wz_36, wa_37, wz_37, wa_38, wz_38, wa_39, wz_39, wa_40, wz_40, wa_42, wz_42, wa_44, wz_44, wa_46, wz_46, wa_48, wz_48, wa_49, wz_49, wa_50, wz_50]
    rw [ih (k + 1) n (by omega) (by omega)]
    by_cases q : z = t <;> simp [q]
theorem cr_take_s (x : Int32) (hr : r_small r) (C : C_row h r) (hab : h 22 6 = ab) (R : R_c h P T K Y S) (W : R_w P T K Y S) : cr_take x h = if (decide (r.length < 6) && S_can S T ab r x) = true then some (nI 1, px_w (px_w h 23 r.length x) 22 5 (nI (r.length + 1))) else some (0, h) := by
  have R' := R
  obtain ⟨hP, hT, hK, hY, c0, c1, c2, c3, c4, c5, c6, c7, c8, c9, c10⟩ := R
  have h10 := W.2.1
  unfold cr_take S_can
  by_cases hq : r.length < 6
  · have e1 : ¬ px_c 6 ≤ h 22 5 := by rw [C.1, bc_6]; exact nI_ge (by omega) (by omega)
    rw [if_neg e1, hab, hs_isUnsaidOf_s ab x R' W, B_bind]
    cases hu : S_un S T ab x with
    | false => simp [cr_take_38, bc_0, bc_m1, bc_1, bc_2, bc_3, bc_4, bc_5, bc_6, bc_7, bc_8, bc_9, bc_10, bc_11, bc_12, bc_13, bc_16, bc_22, bc_24, bc_32, bc_40, bc_41, bc_42, bc_43, bc_44, bc_45, bc_47, bc_48, bc_52, bc_57, bc_58, bc_59, bc_60, bc_61, bc_62, bc_63, bc_64, bc_76, bc_80, bc_97, bc_99, bc_105, bc_106, bc_107, bc_108, bc_109, bc_110, bc_111, bc_112, bc_113, bc_114, bc_115, bc_116, bc_117, bc_118, bc_119, bc_120, bc_121, bc_122, bc_255, bc_256, bc_400, bc_572, bc_999, bc_1024, bc_10000, bc_m2, bc_m3, bc_m8, bc_m100, bc_m200, B_bz0, B_01_f]
    | true =>
      have hx : B_is x T = true := by
        unfold S_un at hu
        rw [Bool.and_eq_true] at hu
        exact hu.1
      obtain ⟨t, ht, rfl⟩ := B_is_ex hx (by omega)
      simp (disch := omega) only [c4, bn_le, bn_lt, bn_eq, bn_le0, bn_0le, bn_lt0, bn_0lt, bn_eq0, bn_0eq, bn_eqm, bn_mlt0, bn_0lem, bn_m0, bn_mle0, bn_ltm, bn_mlt, bn_mle, bn_lem, nI_add, pk_mul, pk_sub, nI_clamp, B_n_nI, bn_0, bc_0, bc_m1, bc_1, bc_2, bc_3, bc_4, bc_5, bc_6, bc_7, bc_8, bc_9, bc_10, bc_11, bc_12, bc_13, bc_16, bc_22, bc_24, bc_32, bc_40, bc_41, bc_42, bc_43, bc_44, bc_45, bc_47, bc_48, bc_52, bc_57, bc_58, bc_59, bc_60, bc_61, bc_62, bc_63, bc_64, bc_76, bc_80, bc_97, bc_99, bc_105, bc_106, bc_107, bc_108, bc_109, bc_110, bc_111, bc_112, bc_113, bc_114, bc_115, bc_116, bc_117, bc_118, bc_119, bc_120, bc_121, bc_122, bc_255, bc_256, bc_400, bc_572, bc_999, bc_1024, bc_10000, bc_m2, bc_m3, bc_m8, bc_m100, bc_m200, B_bind, B_bind_if, B_ift, B_bz0, B_bz1, B_01_bz, B_01_e0, B_01_e1, if_pos, if_neg, reduceIte, Bool.false_eq_true, Bool.true_eq_false, wa_4, wz_4, wa_5, wz_5, wa_6, wz_6, wa_7, wz_7, wa_8, wz_8, wa_9, wz_9, wa_10, wz_10, wa_11, wz_11, wa_12, wz_12, wa_13, wz_13, wa_15, wz_15, wa_16, wz_16, wa_18, wz_18, wa_19, wz_19, wa_20, wz_20, wa_23, wz_23, wa_24, wz_24, wa_26, wz_26, wa_27, wz_27, wa_28, wz_28, wa_29, wz_29, wa_30, wz_30, wa_31, wz_31, wa_32, wz_32, wa_34, wz_34, wa_35, wz_35, wa_36, wz_36, wa_37, wz_37, wa_38, wz_38, wa_39, wz_39, wa_40, wz_40, wa_42, wz_42, wa_44, wz_44, wa_46, wz_46, wa_48, wz_48, wa_49, wz_49, wa_50, wz_50, B_01_t, cr_take_38]
      by_cases h4 : S 4 t = 0
      · simp [h4]
      · have := cr_take_loop (t := t) (by omega) hr C hq r.length 0 px_F (by omega) (px_F_lt (by omega))
        rw [bn_0, B_amo_c] at this
        simp [h4, this, hq]
  · have e1 : px_c 6 ≤ h 22 5 := by rw [C.1, bc_6]; exact nI_le (by omega) (by have := C.2.1; omega)
    rw [if_pos e1]
    simp [hq, cr_take_38, bc_0, bc_m1, bc_1, bc_2, bc_3, bc_4, bc_5, bc_6, bc_7, bc_8, bc_9, bc_10, bc_11, bc_12, bc_13, bc_16, bc_22, bc_24, bc_32, bc_40, bc_41, bc_42, bc_43, bc_44, bc_45, bc_47, bc_48, bc_52, bc_57, bc_58, bc_59, bc_60, bc_61, bc_62, bc_63, bc_64, bc_76, bc_80, bc_97, bc_99, bc_105, bc_106, bc_107, bc_108, bc_109, bc_110, bc_111, bc_112, bc_113, bc_114, bc_115, bc_116, bc_117, bc_118, bc_119, bc_120, bc_121, bc_122, bc_255, bc_256, bc_400, bc_572, bc_999, bc_1024, bc_10000, bc_m2, bc_m3, bc_m8, bc_m100, bc_m200, B_bz0]
theorem mo_canLine_loop {t : Nat} (ht : t < 10) (hr : r_small r) (C : M_row h r) : ∀ (m k n : Nat), k + m = r.length → m < n → mo_canLine_45 n (nI t) (nI k) h = some (B_01 (!(B_amo r t k m)), h) := by
  obtain ⟨c1, c2, c3⟩ := C
  intro m
  induction m with
  | zero =>
    intro k n hk hn
    obtain ⟨n, rfl⟩ : ∃ n', n = n' + 1 := ⟨n - 1, by omega⟩
    simp (disch := omega) only [mo_canLine_45, c1, B_amo, bn_le, bn_lt, bn_eq, bn_le0, bn_0le, bn_lt0, bn_0lt, bn_eq0, bn_0eq, bn_eqm, bn_mlt0, bn_0lem, bn_m0, bn_mle0, bn_ltm, bn_mlt, bn_mle, bn_lem, nI_add, pk_mul, pk_sub, nI_clamp, B_n_nI, bn_0, bc_0, bc_m1, bc_1, bc_2, bc_3, bc_4, bc_5, bc_6, bc_7, bc_8, bc_9, bc_10, bc_11, bc_12, bc_13, bc_16, bc_22, bc_24, bc_32, bc_40, bc_41, bc_42, bc_43, bc_44, bc_45, bc_47, bc_48, bc_52, bc_57, bc_58, bc_59, bc_60, bc_61, bc_62, bc_63, bc_64, bc_76, bc_80, bc_97, bc_99, bc_105, bc_106, bc_107, bc_108, bc_109, bc_110, bc_111, bc_112, bc_113, bc_114, bc_115, bc_116, bc_117, bc_118, bc_119, bc_120, bc_121, bc_122, bc_255, bc_256, bc_400, bc_572, bc_999, bc_1024, bc_10000, bc_m2, bc_m3, bc_m8, bc_m100, bc_m200, B_bind, B_bind_if, B_ift, B_bz0, B_bz1, B_01_bz, B_01_e0, B_01_e1, if_pos, if_neg, reduceIte, Bool.false_eq_true, Bool.true_eq_false, Bool.not_false, B_01_t]
  | succ m ih =>
    intro k n hk hn
    obtain ⟨n, rfl⟩ : ∃ n', n = n' + 1 := ⟨n - 1, by omega⟩
    have hr2 := hr k (by omega)
    have e9 := c3 k (by omega)
    have ea : B_amo r t k (m + 1) = (decide (r.getD k 0 = t) || B_amo r t (k + 1) m) := rfl
    rw [ea]
    generalize r.getD k 0 = z at *
    simp (disch := omega) only [mo_canLine_45, c1, e9, bn_le, bn_lt, bn_eq, bn_le0, bn_0le, bn_lt0, bn_0lt, bn_eq0, bn_0eq, bn_eqm, bn_mlt0, bn_0lem, bn_m0, bn_mle0, bn_ltm, bn_mlt, bn_mle, bn_lem, nI_add, pk_mul, pk_sub, nI_clamp, B_n_nI, bn_0, bc_0, bc_m1, bc_1, bc_2, bc_3, bc_4, bc_5, bc_6, bc_7, bc_8, bc_9, bc_10, bc_11, bc_12, bc_13, bc_16, bc_22, bc_24, bc_32, bc_40, bc_41, bc_42, bc_43, bc_44, bc_45, bc_47, bc_48, bc_52, bc_57, bc_58, bc_59, bc_60, bc_61, bc_62, bc_63, bc_64, bc_76, bc_80, bc_97, bc_99, bc_105, bc_106, bc_107, bc_108, bc_109, bc_110, bc_111, bc_112, bc_113, bc_114, bc_115, bc_116, bc_117, bc_118, bc_119, bc_120, bc_121, bc_122, bc_255, bc_256, bc_400, bc_572, bc_999, bc_1024, bc_10000, bc_m2, bc_m3, bc_m8, bc_m100, bc_m200, B_bind, B_bind_if, B_ift, B_bz0, B_bz1, B_01_bz, B_01_e0, B_01_e1, if_pos, if_neg, reduceIte, Bool.false_eq_true, Bool.true_eq_false, po_52, pz_52, po_53, pz_53, po_54, pz_54, po_55, pz_55, po_56, pz_56, po_57, pz_57, po_58, pz_58, po_59, pz_59, po_60, pz_60, po_61, pz_61, po_62, pz_62, po_63, pz_63, po_64, pz_64, po_65, pz_65, po_66, pz_66, po_67, pz_67, po_68, pz_68, po_69, pz_69, po_70, pz_70, po_71, pz_71, po_72, pz_72, po_73, pz_73, po_74, pz_74, po_75, pz_75, po_76, pz_76, po_77, pz_77, po_78, pz_78, po_79, pz_79, po_80, pz_80, po_81, pz_81]
    rw [ih (k + 1) n (by omega) (by omega)]
    by_cases q : z = t <;> simp [q, B_01]
theorem mo_canLine_s (x : Int32) (ht : px_tag a = 0) (hl : px_len a = 52) (hr : r_small r) (C : M_row h r) (R : R_k h P T K Y S) (A : R_a h a P T S) (W : R_w P T K Y S) : mo_canLine a x ab h = some (B_01 (S_can S T ab r x), h) := by
  obtain ⟨mP, mT, mK, mY, m0, m3, m5, m7, m10⟩ := R
  obtain ⟨a1, a2, a4, a8, a6, a9⟩ := A
  obtain ⟨h6, h10, h5, hY2, hY60, w0, w1, w2, w4, w6, w7, w8, w9, w10, w11⟩ := W
  have hoA : ∀ k, k < 52 → px_ok 0 a (nI k) = true := fun k hk => px_ok_a ht hl hk
  unfold mo_canLine S_can S_un
  rw [mo_isThing_eq x mT h10, B_bind]
  cases hx : B_is x T with
  | false => simp [mo_canLine_40, bc_0, bc_m1, bc_1, bc_2, bc_3, bc_4, bc_5, bc_6, bc_7, bc_8, bc_9, bc_10, bc_11, bc_12, bc_13, bc_16, bc_22, bc_24, bc_32, bc_40, bc_41, bc_42, bc_43, bc_44, bc_45, bc_47, bc_48, bc_52, bc_57, bc_58, bc_59, bc_60, bc_61, bc_62, bc_63, bc_64, bc_76, bc_80, bc_97, bc_99, bc_105, bc_106, bc_107, bc_108, bc_109, bc_110, bc_111, bc_112, bc_113, bc_114, bc_115, bc_116, bc_117, bc_118, bc_119, bc_120, bc_121, bc_122, bc_255, bc_256, bc_400, bc_572, bc_999, bc_1024, bc_10000, bc_m2, bc_m3, bc_m8, bc_m100, bc_m200, B_bz0, B_01_f]
  | true =>
    obtain ⟨t, ht2, rfl⟩ := B_is_ex hx (by omega)
    obtain ⟨v, hv, e6⟩ := w6 t ht2
    have hL := mo_canLine_loop (t := t) (by omega) hr C r.length 0 px_F (by omega) (px_F_lt (by have := C.2.1; omega))
    rw [bn_0, B_amo_c] at hL
    simp (disch := omega) only [a8, a4, a6, e6, hoA, mo_has_eq, mo_canLine_40, hL, bn_le, bn_lt, bn_eq, bn_le0, bn_0le, bn_lt0, bn_0lt, bn_eq0, bn_0eq, bn_eqm, bn_mlt0, bn_0lem, bn_m0, bn_mle0, bn_ltm, bn_mlt, bn_mle, bn_lem, nI_add, pk_mul, pk_sub, nI_clamp, B_n_nI, bn_0, bc_0, bc_m1, bc_1, bc_2, bc_3, bc_4, bc_5, bc_6, bc_7, bc_8, bc_9, bc_10, bc_11, bc_12, bc_13, bc_16, bc_22, bc_24, bc_32, bc_40, bc_41, bc_42, bc_43, bc_44, bc_45, bc_47, bc_48, bc_52, bc_57, bc_58, bc_59, bc_60, bc_61, bc_62, bc_63, bc_64, bc_76, bc_80, bc_97, bc_99, bc_105, bc_106, bc_107, bc_108, bc_109, bc_110, bc_111, bc_112, bc_113, bc_114, bc_115, bc_116, bc_117, bc_118, bc_119, bc_120, bc_121, bc_122, bc_255, bc_256, bc_400, bc_572, bc_999, bc_1024, bc_10000, bc_m2, bc_m3, bc_m8, bc_m100, bc_m200, B_bind, B_bind_if, B_ift, B_bz0, B_bz1, B_01_bz, B_01_e0, B_01_e1, if_pos, if_neg, reduceIte, Bool.false_eq_true, Bool.true_eq_false, B_01_t]
    have h01 : ¬ (0 : Int32) = nI 1 := by decide
    have h10' : ¬ nI 1 = (0 : Int32) := by decide
    rcases w8 t ht2 with e8 | e8
    · by_cases q4 : S 4 t = 0
      · simp [e8, q4, h01, B_01_f]
      · by_cases qb : B_bit ab v = true
        · simp [e8, q4, h01, qb, nI]
        · simp [e8, q4, h01, qb, B_01_f]
    · simp [e8, h10', B_01_f]
end ROW
