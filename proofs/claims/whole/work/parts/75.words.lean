/-! Layer B: words in a row; the row read from the text -/
theorem B_foldl_getD (r : List Nat) (f : Nat → Nat) : ∀ m k (b : Nat), k + m = r.length → B_fold (fun j b => b + f (r.getD j 0)) k m b = b + ((r.drop k).map f).sum := by
  intro m
  induction m with
  | zero =>
    intro k b hk
    rw [List.drop_eq_nil_of_le (by omega)]
    rfl
  | succ m ih =>
    intro k b hk
    have hk2 : k < r.length := by omega
    show B_fold _ (k + 1) m (b + f (r.getD k 0)) = _
    rw [ih (k + 1) _ (by omega), List.drop_eq_getElem_cons hk2, List.map_cons, List.sum_cons, List.getD_eq_getElem?_getD, List.getElem?_eq_getElem hk2]
    show b + f r[k] + _ = b + (f r[k] + _)
    omega
section WORDS
variable {h : pH} {P T K Y a : Nat} {S : pH} {r : List Nat} {ab : Int32}
def r_in (r : List Nat) (T : Nat) : Prop := ∀ k, k < r.length → r.getD k 0 < T
theorem r_in_app {r : List Nat} {T t : Nat} (h : r_in r T) (ht : t < T) : r_in (r ++ [t]) T := fun k hk => by
  rw [B_getD_app2 r t hk]
  split
  · exact ht
  · rw [List.length_append, List.length_singleton] at hk
    exact h k (by omega)
theorem r_in_small {r : List Nat} {T : Nat} (h : r_in r T) (hT : T ≤ 10) : r_small r := fun k hk => by
  have := h k hk
  omega
theorem S_wds_eq (S : pH) (r : List Nat) : S_wds S r = B_fold (fun j b => b + B_n (S 4 (r.getD j 0))) 0 r.length 0 := by
  rw [B_foldl_getD r (fun t => B_n (S 4 t)) r.length 0 0 (by omega), List.drop_zero, Nat.zero_add]
  rfl
theorem S_wds_le (W : R_w P T K Y S) (hr : r_in r T) : B_fold (fun j b => b + B_n (S 4 (r.getD j 0))) 0 r.length 0 ≤ 40 * (0 + r.length) := by
  have w4 := W.2.2.2.2.2.2.2.2.1
  refine B_fold_inv (g := fun j b => b + B_n (S 4 (r.getD j 0))) (fun j b => b ≤ 40 * j) r.length 0 0 (by omega) (fun j b _ hj hb => ?_)
  have := B_lt_n (by omega) (w4 _ (hr j (by omega)))
  omega
theorem B_loopI {α β : Type} (F : Nat → α → Nat → β) (N : Nat) (g : Nat → α → α) (res : α → β) (I : Nat → α → Prop) (hs : ∀ n a k, k < N → I k a → F (n + 1) a k = F n (g k a) (k + 1) ∧ I (k + 1) (g k a)) (he : ∀ n a, I N a → F (n + 1) a N = res a) : ∀ m k n a, k + m = N → m < n → I k a → F n a k = res (B_fold g k m a) := by
  intro m
  induction m with
  | zero =>
    intro k n a hk hn hI
    obtain ⟨n, rfl⟩ : ∃ n', n = n' + 1 := ⟨n - 1, by omega⟩
    have e : k = N := by omega
    subst e
    exact he n a hI
  | succ m ih =>
    intro k n a hk hn hI
    obtain ⟨n, rfl⟩ : ∃ n', n = n' + 1 := ⟨n - 1, by omega⟩
    obtain ⟨e1, e2⟩ := hs n a k (by omega) hI
    rw [e1]
    exact ih (k + 1) n (g k a) (by omega) (by omega) e2
theorem cr_hasWords_s {D : Nat} (hD : D ≤ 60) (h9 : h 22 9 = nI D) (hr : r_in r T) (C : C_row h r) (R : R_c h P T K Y S) (W : R_w P T K Y S) : cr_hasWords h = some (B_01 (decide (D ≤ S_wds S r)), h) := by
  obtain ⟨hP, hT, hK, hY, c0, c1, c2, c3, c4, c5, c6, c7, c8, c9, c10⟩ := R
  have w4 := W.2.2.2.2.2.2.2.2.1
  have h10 := W.2.1
  obtain ⟨d1, d2, d3⟩ := C
  unfold cr_hasWords
  rw [S_wds_eq, bc_0, ← nI_0]
  refine B_loopI (fun n b k => cr_hasWords_4 n (nI b) (nI k) h) r.length (fun j b => b + B_n (S 4 (r.getD j 0))) (fun b => some (B_01 (decide (D ≤ b)), h)) (fun j b => b ≤ 40 * j) (fun n b k hk hb => ?_) (fun n b hb => ?_) r.length 0 px_F 0 (by omega) (px_F_lt (by omega)) (by omega)
  · have hr2 := hr k hk
    have e9 := d3 k hk
    have hw := B_lt_n (by omega) (w4 _ hr2)
    have e4 := c4 _ hr2
    generalize r.getD k 0 = z at *
    refine ⟨?_, by omega⟩
    rw [hw.2] at e4
    simp (disch := omega) only [cr_hasWords_4, d1, e9, e4, bn_le, bn_lt, bn_eq, bn_le0, bn_0le, bn_lt0, bn_0lt, bn_eq0, bn_0eq, bn_eqm, bn_mlt0, bn_0lem, bn_m0, bn_mle0, bn_ltm, bn_mlt, bn_mle, bn_lem, nI_add, pk_mul, pk_sub, nI_clamp, B_n_nI, bn_0, bc_0, bc_m1, bc_1, bc_2, bc_3, bc_4, bc_5, bc_6, bc_7, bc_8, bc_9, bc_10, bc_11, bc_12, bc_13, bc_16, bc_22, bc_24, bc_32, bc_40, bc_41, bc_42, bc_43, bc_44, bc_45, bc_47, bc_48, bc_52, bc_57, bc_58, bc_59, bc_60, bc_61, bc_62, bc_63, bc_64, bc_76, bc_80, bc_97, bc_99, bc_105, bc_106, bc_107, bc_108, bc_109, bc_110, bc_111, bc_112, bc_113, bc_114, bc_115, bc_116, bc_117, bc_118, bc_119, bc_120, bc_121, bc_122, bc_255, bc_256, bc_400, bc_572, bc_999, bc_1024, bc_10000, bc_m2, bc_m3, bc_m8, bc_m100, bc_m200, B_bind, B_bind_if, B_ift, B_bz0, B_bz1, B_01_bz, B_01_e0, B_01_e1, if_pos, if_neg, reduceIte, Bool.false_eq_true, Bool.true_eq_false, wa_4, wz_4, wa_5, wz_5, wa_6, wz_6, wa_7, wz_7, wa_8, wz_8, wa_9, wz_9, wa_10, wz_10, wa_11, wz_11, wa_12, wz_12, wa_13, wz_13, wa_15, wz_15, wa_16, wz_16, wa_18, wz_18, wa_19, wz_19, wa_20, wz_20, wa_23, wz_23, wa_24, wz_24, wa_26, wz_26, wa_27, wz_27, wa_28, wz_28, wa_29, wz_29, wa_30, wz_30, wa_31, wz_31, wa_32, wz_32, wa_34, wz_34, wa_35, wz_35, wa_36, wz_36, wa_37, wz_37, wa_38, wz_38, wa_39, wz_39, wa_40, wz_40, wa_42, wz_42, wa_44, wz_44, wa_46, wz_46, wa_48, wz_48, wa_49, wz_49, wa_50, wz_50]
  · simp (disch := omega) only [cr_hasWords_4, cr_hasWords_52, d1, h9, bn_le, bn_lt, bn_eq, bn_le0, bn_0le, bn_lt0, bn_0lt, bn_eq0, bn_0eq, bn_eqm, bn_mlt0, bn_0lem, bn_m0, bn_mle0, bn_ltm, bn_mlt, bn_mle, bn_lem, nI_add, pk_mul, pk_sub, nI_clamp, B_n_nI, bn_0, bc_0, bc_m1, bc_1, bc_2, bc_3, bc_4, bc_5, bc_6, bc_7, bc_8, bc_9, bc_10, bc_11, bc_12, bc_13, bc_16, bc_22, bc_24, bc_32, bc_40, bc_41, bc_42, bc_43, bc_44, bc_45, bc_47, bc_48, bc_52, bc_57, bc_58, bc_59, bc_60, bc_61, bc_62, bc_63, bc_64, bc_76, bc_80, bc_97, bc_99, bc_105, bc_106, bc_107, bc_108, bc_109, bc_110, bc_111, bc_112, bc_113, bc_114, bc_115, bc_116, bc_117, bc_118, bc_119, bc_120, bc_121, bc_122, bc_255, bc_256, bc_400, bc_572, bc_999, bc_1024, bc_10000, bc_m2, bc_m3, bc_m8, bc_m100, bc_m200, B_bind, B_bind_if, B_ift, B_bz0, B_bz1, B_01_bz, B_01_e0, B_01_e1, if_pos, if_neg, reduceIte, Bool.false_eq_true, Bool.true_eq_false, wa_4, wz_4, wa_5, wz_5, wa_6, wz_6, wa_7, wz_7, wa_8, wz_8, wa_9, wz_9, wa_10, wz_10, wa_11, wz_11, wa_12, wz_12, wa_13, wz_13, wa_15, wz_15, wa_16, wz_16, wa_18, wz_18, wa_19, wz_19, wa_20, wz_20, wa_23, wz_23, wa_24, wz_24, wa_26, wz_26, wa_27, wz_27, wa_28, wz_28, wa_29, wz_29, wa_30, wz_30, wa_31, wz_31, wa_32, wz_32, wa_34, wz_34, wa_35, wz_35, wa_36, wz_36, wa_37, wz_37, wa_38, wz_38, wa_39, wz_39, wa_40, wz_40, wa_42, wz_42, wa_44, wz_44, wa_46, wz_46, wa_48, wz_48, wa_49, wz_49, wa_50, wz_50]
    by_cases q : b < D
    · have : ¬ D ≤ b := by omega
      simp [q, this, B_01, px_bz]
    · have : D ≤ b := by omega
      simp [q, this, B_01, px_bz, nI]
theorem mo_wordsIn_s (ht : px_tag a = 0) (hl : px_len a = 52) (hr : r_in r T) (C : M_row h r) (A : R_a h a P T S) (W : R_w P T K Y S) : mo_wordsIn a h = some (nI (S_wds S r), h) := by
  obtain ⟨a1, a2, a4, a8, a6, a9⟩ := A
  have w4 := W.2.2.2.2.2.2.2.2.1
  have h10 := W.2.1
  obtain ⟨d1, d2, d3⟩ := C
  have hoA : ∀ k, k < 52 → px_ok 0 a (nI k) = true := fun k hk => px_ok_a ht hl hk
  unfold mo_wordsIn
  rw [S_wds_eq, bc_0, ← nI_0]
  refine B_loop0 (fun n b k => mo_wordsIn_4 n a (nI b) (nI k) h) r.length (fun j b => b + B_n (S 4 (r.getD j 0))) (fun b => some (nI b, h)) (by omega) (fun n b k hk => ?_) (fun n b => ?_) 0
  · have hr2 := hr k hk
    have e9 := d3 k hk
    have hw := B_lt_n (by omega) (w4 _ hr2)
    have e4 := a4 _ hr2
    generalize r.getD k 0 = z at *
    rw [hw.2] at e4
    simp (disch := omega) only [mo_wordsIn_4, d1, e9, e4, hoA, bn_le, bn_lt, bn_eq, bn_le0, bn_0le, bn_lt0, bn_0lt, bn_eq0, bn_0eq, bn_eqm, bn_mlt0, bn_0lem, bn_m0, bn_mle0, bn_ltm, bn_mlt, bn_mle, bn_lem, nI_add, pk_mul, pk_sub, nI_clamp, B_n_nI, bn_0, bc_0, bc_m1, bc_1, bc_2, bc_3, bc_4, bc_5, bc_6, bc_7, bc_8, bc_9, bc_10, bc_11, bc_12, bc_13, bc_16, bc_22, bc_24, bc_32, bc_40, bc_41, bc_42, bc_43, bc_44, bc_45, bc_47, bc_48, bc_52, bc_57, bc_58, bc_59, bc_60, bc_61, bc_62, bc_63, bc_64, bc_76, bc_80, bc_97, bc_99, bc_105, bc_106, bc_107, bc_108, bc_109, bc_110, bc_111, bc_112, bc_113, bc_114, bc_115, bc_116, bc_117, bc_118, bc_119, bc_120, bc_121, bc_122, bc_255, bc_256, bc_400, bc_572, bc_999, bc_1024, bc_10000, bc_m2, bc_m3, bc_m8, bc_m100, bc_m200, B_bind, B_bind_if, B_ift, B_bz0, B_bz1, B_01_bz, B_01_e0, B_01_e1, if_pos, if_neg, reduceIte, Bool.false_eq_true, Bool.true_eq_false, po_52, pz_52, po_53, pz_53, po_54, pz_54, po_55, pz_55, po_56, pz_56, po_57, pz_57, po_58, pz_58, po_59, pz_59, po_60, pz_60, po_61, pz_61, po_62, pz_62, po_63, pz_63, po_64, pz_64, po_65, pz_65, po_66, pz_66, po_67, pz_67, po_68, pz_68, po_69, pz_69, po_70, pz_70, po_71, pz_71, po_72, pz_72, po_73, pz_73, po_74, pz_74, po_75, pz_75, po_76, pz_76, po_77, pz_77, po_78, pz_78, po_79, pz_79, po_80, pz_80, po_81, pz_81]
  · simp (disch := omega) only [mo_wordsIn_4, d1, bn_le, bn_lt, bn_eq, bn_le0, bn_0le, bn_lt0, bn_0lt, bn_eq0, bn_0eq, bn_eqm, bn_mlt0, bn_0lem, bn_m0, bn_mle0, bn_ltm, bn_mlt, bn_mle, bn_lem, nI_add, pk_mul, pk_sub, nI_clamp, B_n_nI, bn_0, bc_0, bc_m1, bc_1, bc_2, bc_3, bc_4, bc_5, bc_6, bc_7, bc_8, bc_9, bc_10, bc_11, bc_12, bc_13, bc_16, bc_22, bc_24, bc_32, bc_40, bc_41, bc_42, bc_43, bc_44, bc_45, bc_47, bc_48, bc_52, bc_57, bc_58, bc_59, bc_60, bc_61, bc_62, bc_63, bc_64, bc_76, bc_80, bc_97, bc_99, bc_105, bc_106, bc_107, bc_108, bc_109, bc_110, bc_111, bc_112, bc_113, bc_114, bc_115, bc_116, bc_117, bc_118, bc_119, bc_120, bc_121, bc_122, bc_255, bc_256, bc_400, bc_572, bc_999, bc_1024, bc_10000, bc_m2, bc_m3, bc_m8, bc_m100, bc_m200, B_bind, B_bind_if, B_ift, B_bz0, B_bz1, B_01_bz, B_01_e0, B_01_e1, if_pos, if_neg, reduceIte, Bool.false_eq_true, Bool.true_eq_false]
end WORDS
