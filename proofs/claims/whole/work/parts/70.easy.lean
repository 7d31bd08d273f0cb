/-! Layer B: the easy calls -/
theorem B_t0_row (h : pH) {a : Nat} (ha : a ≠ 51) : (B_t0 h) a = h a := B_w_cell h 14 0 ha
theorem B_t0_at (h : pH) {k : Nat} (hk : k ≠ 14) : (B_t0 h) 51 k = h 51 k := by
  unfold B_t0
  rw [B_w_at, if_neg hk]
theorem bn_10 : (nI 1 = 0) = False := by decide
section EASY
variable {i : Nat} {h : pH}
theorem B_call {f : pH → pR} {g : pH → pR} (hi : Inv i h) (H : ∀ P T K Y n S ev, I_h h P T K Y i n S ev → I_row h → R_c h P T K Y S → R_m (B_t0 h) P T K Y S → R_w P T K Y S → ∃ r h1 h2, f h = some (r, h1) ∧ g h1 = some (r, h2) ∧ Inv (i + 5) h2) : ∃ r h1 h2, f h = some (r, h1) ∧ g h1 = some (r, h2) ∧ Inv (i + 5) h2 := by
  obtain ⟨P, T, K, Y, n, S, ev, I, r⟩ := hi
  exact H P T K Y n S ev I r I.1 (I.2.1.sm (B_t0_fr h).sm_d) I.2.2.1
/-- both only read -/
theorem B_qr {P T K Y n : Nat} {S : pH} {ev : pE} (I : I_h h P T K Y i n S ev) (r : I_row h) : Inv (i + 5) (B_t0 h) := B_q0 I r (B_fr.refl _ _) (B_t0_fr h) rfl rfl (B_t0_at h (by decide)) (B_t0_row h (by decide))
theorem B_islet (hI : Inv i h) (v0 : Int32) : ∃ r h1 h2, wu_islet v0 h = some (r, h1) ∧ mo_islet v0 h1 = some (r, h2) ∧ Inv (i + 5) h2 := by
  refine B_call hI (fun P T K Y n S ev I r R M W => ?_)
  refine ⟨if B_is v0 K = true then S 10 (B_n v0) else -1, h, B_t0 h, ?_, ?_, B_qr I r⟩
  · have R' := R
    obtain ⟨hP, hT, hK, hY, c0, c1, c2, c3, c4, c5, c6, c7, c8, c9, c10⟩ := R
    have h5 := W.2.2.1
    unfold wu_islet
    rw [rv_hasIslet_s v0 R' W, B_bind]
    cases hx : B_is v0 K with
    | false => simp only [wu_islet_26, bc_0, bc_m1, bc_1, bc_2, bc_3, bc_4, bc_5, bc_6, bc_7, bc_8, bc_9, bc_10, bc_11, bc_12, bc_13, bc_16, bc_22, bc_24, bc_32, bc_40, bc_41, bc_42, bc_43, bc_44, bc_45, bc_47, bc_48, bc_52, bc_57, bc_58, bc_59, bc_60, bc_61, bc_62, bc_63, bc_64, bc_76, bc_80, bc_97, bc_99, bc_105, bc_106, bc_107, bc_108, bc_109, bc_110, bc_111, bc_112, bc_113, bc_114, bc_115, bc_116, bc_117, bc_118, bc_119, bc_120, bc_121, bc_122, bc_255, bc_256, bc_400, bc_572, bc_999, bc_1024, bc_10000, bc_m2, bc_m3, bc_m8, bc_m100, bc_m200, B_bind, B_bind_if, B_ift, B_bz0, B_bz1, B_01_bz, B_01_e0, B_01_e1, if_pos, if_neg, reduceIte, Bool.false_eq_true, Bool.true_eq_false, B_01_f]
    | true =>
      obtain ⟨k, hk, rfl⟩ := B_is_ex hx (by omega)
      simp (disch := omega) only [wu_islet_26, c10, bn_le, bn_lt, bn_eq, bn_le0, bn_0le, bn_lt0, bn_0lt, bn_eq0, bn_0eq, bn_eqm, bn_mlt0, bn_0lem, bn_m0, bn_mle0, bn_ltm, bn_mlt, bn_mle, bn_lem, nI_add, pk_mul, pk_sub, nI_clamp, B_n_nI, bn_0, bc_0, bc_m1, bc_1, bc_2, bc_3, bc_4, bc_5, bc_6, bc_7, bc_8, bc_9, bc_10, bc_11, bc_12, bc_13, bc_16, bc_22, bc_24, bc_32, bc_40, bc_41, bc_42, bc_43, bc_44, bc_45, bc_47, bc_48, bc_52, bc_57, bc_58, bc_59, bc_60, bc_61, bc_62, bc_63, bc_64, bc_76, bc_80, bc_97, bc_99, bc_105, bc_106, bc_107, bc_108, bc_109, bc_110, bc_111, bc_112, bc_113, bc_114, bc_115, bc_116, bc_117, bc_118, bc_119, bc_120, bc_121, bc_122, bc_255, bc_256, bc_400, bc_572, bc_999, bc_1024, bc_10000, bc_m2, bc_m3, bc_m8, bc_m100, bc_m200, B_bind, B_bind_if, B_ift, B_bz0, B_bz1, B_01_bz, B_01_e0, B_01_e1, if_pos, if_neg, reduceIte, Bool.false_eq_true, Bool.true_eq_false, wa_4, wz_4, wa_5, wz_5, wa_6, wz_6, wa_7, wz_7, wa_8, wz_8, wa_9, wz_9, wa_10, wz_10, wa_11, wz_11, wa_12, wz_12, wa_13, wz_13, wa_15, wz_15, wa_16, wz_16, wa_18, wz_18, wa_19, wz_19, wa_20, wz_20, wa_23, wz_23, wa_24, wz_24, wa_26, wz_26, wa_27, wz_27, wa_28, wz_28, wa_29, wz_29, wa_30, wz_30, wa_31, wz_31, wa_32, wz_32, wa_34, wz_34, wa_35, wz_35, wa_36, wz_36, wa_37, wz_37, wa_38, wz_38, wa_39, wz_39, wa_40, wz_40, wa_42, wz_42, wa_44, wz_44, wa_46, wz_46, wa_48, wz_48, wa_49, wz_49, wa_50, wz_50, B_01_t]
  · obtain ⟨⟨mP, mT, mK, mY, m0, m3, m5, m7, m10⟩, -⟩ := M
    have h5 := W.2.2.1
    unfold mo_islet
    rw [bc_0]
    show px_bind (mo_in v0 _ ((B_t0 h) 51 2 - px_c 1) (B_t0 h)) _ = _
    rw [mK, ← bc_0, mo_in0_eq v0 rfl (by omega), B_bind]
    cases hx : B_is v0 K with
    | false => simp only [mo_islet_29, bc_0, bc_m1, bc_1, bc_2, bc_3, bc_4, bc_5, bc_6, bc_7, bc_8, bc_9, bc_10, bc_11, bc_12, bc_13, bc_16, bc_22, bc_24, bc_32, bc_40, bc_41, bc_42, bc_43, bc_44, bc_45, bc_47, bc_48, bc_52, bc_57, bc_58, bc_59, bc_60, bc_61, bc_62, bc_63, bc_64, bc_76, bc_80, bc_97, bc_99, bc_105, bc_106, bc_107, bc_108, bc_109, bc_110, bc_111, bc_112, bc_113, bc_114, bc_115, bc_116, bc_117, bc_118, bc_119, bc_120, bc_121, bc_122, bc_255, bc_256, bc_400, bc_572, bc_999, bc_1024, bc_10000, bc_m2, bc_m3, bc_m8, bc_m100, bc_m200, B_bind, B_bind_if, B_ift, B_bz0, B_bz1, B_01_bz, B_01_e0, B_01_e1, if_pos, if_neg, reduceIte, Bool.false_eq_true, Bool.true_eq_false, B_01_f]
    | true =>
      obtain ⟨k, hk, rfl⟩ := B_is_ex hx (by omega)
      simp (disch := omega) only [mo_islet_29, m10, bn_le, bn_lt, bn_eq, bn_le0, bn_0le, bn_lt0, bn_0lt, bn_eq0, bn_0eq, bn_eqm, bn_mlt0, bn_0lem, bn_m0, bn_mle0, bn_ltm, bn_mlt, bn_mle, bn_lem, nI_add, pk_mul, pk_sub, nI_clamp, B_n_nI, bn_0, bc_0, bc_m1, bc_1, bc_2, bc_3, bc_4, bc_5, bc_6, bc_7, bc_8, bc_9, bc_10, bc_11, bc_12, bc_13, bc_16, bc_22, bc_24, bc_32, bc_40, bc_41, bc_42, bc_43, bc_44, bc_45, bc_47, bc_48, bc_52, bc_57, bc_58, bc_59, bc_60, bc_61, bc_62, bc_63, bc_64, bc_76, bc_80, bc_97, bc_99, bc_105, bc_106, bc_107, bc_108, bc_109, bc_110, bc_111, bc_112, bc_113, bc_114, bc_115, bc_116, bc_117, bc_118, bc_119, bc_120, bc_121, bc_122, bc_255, bc_256, bc_400, bc_572, bc_999, bc_1024, bc_10000, bc_m2, bc_m3, bc_m8, bc_m100, bc_m200, B_bind, B_bind_if, B_ift, B_bz0, B_bz1, B_01_bz, B_01_e0, B_01_e1, if_pos, if_neg, reduceIte, Bool.false_eq_true, Bool.true_eq_false, po_52, pz_52, po_53, pz_53, po_54, pz_54, po_55, pz_55, po_56, pz_56, po_57, pz_57, po_58, pz_58, po_59, pz_59, po_60, pz_60, po_61, pz_61, po_62, pz_62, po_63, pz_63, po_64, pz_64, po_65, pz_65, po_66, pz_66, po_67, pz_67, po_68, pz_68, po_69, pz_69, po_70, pz_70, po_71, pz_71, po_72, pz_72, po_73, pz_73, po_74, pz_74, po_75, pz_75, po_76, pz_76, po_77, pz_77, po_78, pz_78, po_79, pz_79, po_80, pz_80, po_81, pz_81, B_01_t]
theorem B_count (hI : Inv i h) (v0 : Int32) : ∃ r h1 h2, wu_count v0 h = some (r, h1) ∧ mo_count v0 h1 = some (r, h2) ∧ Inv (i + 5) h2 := by
  refine B_call hI (fun P T K Y n S ev I r R M W => ?_)
  refine ⟨if v0 = 0 then nI P else if v0 = nI 1 then nI T else if v0 = nI 2 then nI K else if v0 = nI 3 then nI Y else if v0 = nI 4 then S_at S P 0 else if v0 = nI 5 then S_at S P (nI 1) else if v0 = nI 6 then (((nI 1 <<< (nI P &&& 31)) - nI 1) &&& (S_at S P 0 ^^^ -1)) &&& (S_at S P (nI 1) ^^^ -1) else if v0 = nI 7 then S_said S T else if v0 = nI 8 then S_left S T ((nI 1 <<< (nI T &&& 31)) - nI 1) else if v0 = nI 9 then h 41 2 else if v0 = nI 10 then h 45 1 else if v0 = nI 11 then nI n else -1, h, B_t0 h, ?_, ?_, B_qr I r⟩
  · have R' := R
    obtain ⟨hP, hT, hK, hY, -⟩ := R
    unfold wu_count
    simp only [hP, hT, hK, hY, hs_peopleAt_s _ R' W, hs_onIslets_s R' W, hs_saidThings_s R' W, hs_wordsLeft_s _ R' W, I.2.2.2.1.2.1, bc_0, bc_m1, bc_1, bc_2, bc_3, bc_4, bc_5, bc_6, bc_7, bc_8, bc_9, bc_10, bc_11, bc_12, bc_13, bc_16, bc_22, bc_24, bc_32, bc_40, bc_41, bc_42, bc_43, bc_44, bc_45, bc_47, bc_48, bc_52, bc_57, bc_58, bc_59, bc_60, bc_61, bc_62, bc_63, bc_64, bc_76, bc_80, bc_97, bc_99, bc_105, bc_106, bc_107, bc_108, bc_109, bc_110, bc_111, bc_112, bc_113, bc_114, bc_115, bc_116, bc_117, bc_118, bc_119, bc_120, bc_121, bc_122, bc_255, bc_256, bc_400, bc_572, bc_999, bc_1024, bc_10000, bc_m2, bc_m3, bc_m8, bc_m100, bc_m200, B_bind, B_some_if]
  · have M' := M
    obtain ⟨⟨mP, mT, mK, mY, m0, m3, m5, m7, m10⟩, A⟩ := M
    have h10 := W.2.1
    have hset : ∀ k, T ≤ k → k < 10 → B_bit ((nI 1 <<< (nI T &&& 31)) - nI 1) k = false := by
      intro k h1 h2
      have : ∀ t, t < 10 → ∀ k, k < 10 → t ≤ k → B_bit ((nI 1 <<< (nI t &&& 31)) - nI 1) k = false := by decide +kernel
      by_cases hq : T < 10
      · exact this T hq k h2 h1
      · omega
    obtain ⟨U, s, u1, u2, u3, u4, u5, -⟩ := I.2.2.2.2.1
    obtain ⟨Rn, q1, q2, q3, -⟩ := r
    unfold mo_count
    simp only [bc_0]
    show (if v0 = 0 then some ((B_t0 h) 51 4, B_t0 h) else _) = _
    have e35 : (B_t0 h) 51 35 = h 41 2 := by rw [B_t0_at h (by decide), u5, u3]
    have e13 : (B_t0 h) 51 13 = h 45 1 := by rw [B_t0_at h (by decide), q3, q2]
    have e11 : (B_t0 h) 51 11 = nI n := by rw [B_t0_at h (by decide), I.2.2.2.1.2.2.1]
    have eb : px_w h 51 14 0 = B_t0 h := rfl
    simp only [eb, mP, mT, mK, mY, e35, e13, e11, mo_peopleAt_s _ M' W, mo_saidOnes_s (a := 52) rfl rfl M'.1 A W, mo_leftIn_s hset (a := 52) rfl rfl M'.1 A W, bc_0, bc_m1, bc_1, bc_2, bc_3, bc_4, bc_5, bc_6, bc_7, bc_8, bc_9, bc_10, bc_11, bc_12, bc_13, bc_16, bc_22, bc_24, bc_32, bc_40, bc_41, bc_42, bc_43, bc_44, bc_45, bc_47, bc_48, bc_52, bc_57, bc_58, bc_59, bc_60, bc_61, bc_62, bc_63, bc_64, bc_76, bc_80, bc_97, bc_99, bc_105, bc_106, bc_107, bc_108, bc_109, bc_110, bc_111, bc_112, bc_113, bc_114, bc_115, bc_116, bc_117, bc_118, bc_119, bc_120, bc_121, bc_122, bc_255, bc_256, bc_400, bc_572, bc_999, bc_1024, bc_10000, bc_m2, bc_m3, bc_m8, bc_m100, bc_m200, B_bind, B_some_if]
theorem B_apart (hI : Inv i h) : ∃ r h1 h2, wu_apart h = some (r, h1) ∧ mo_apart h1 = some (r, h2) ∧ Inv (i + 5) h2 := by
  refine B_call hI (fun P T K Y n S ev I r R M W => ?_)
  have h10 := W.2.1
  obtain ⟨h1, e1, r1, f1⟩ := tl_tell_2 h (S_kat S T (S_at S P 0) &&& (S_kat S T (S_at S P (nI 1)) ^^^ -1)) (S_kat S T (S_at S P (nI 1)) &&& (S_kat S T (S_at S P 0) ^^^ -1))
  have F1 := f1.mono B_frw_sc
  have M1 := ((I.2.1.sm F1.sm_c).sm (B_t0_fr h1).sm_d)
  have M1' := M1
  obtain ⟨⟨mP, mT, mK, mY, m0, m3, m5, m7, m10⟩, ⟨a1, a2, a4, a8, a6, a9⟩⟩ := M1
  obtain ⟨h2, e2, r2, f2⟩ := mo_tell_s (S_kat S T (S_at S P 0) &&& (S_kat S T (S_at S P (nI 1)) ^^^ -1)) (B_rm_nil (B_t0 h1)) (by decide)
  obtain ⟨h3, e3, r3, f3⟩ := mo_tell_s (S_kat S T (S_at S P (nI 1)) &&& (S_kat S T (S_at S P 0) ^^^ -1)) r2 (by simp)
  refine ⟨S_kat S T (S_at S P 0) ^^^ S_kat S T (S_at S P (nI 1)), h1, h3, ?_, ?_, B_q1 I F1 (((B_t0_fr h1).w (a := 51) (k := 13) rfl).trans ((f2.trans f3).mono B_frm_sd)) r1 r3 (by simp)⟩
  · unfold wu_apart
    simp only [hs_knownAt_s _ R W, bc_0, bc_m1, bc_1, bc_2, bc_3, bc_4, bc_5, bc_6, bc_7, bc_8, bc_9, bc_10, bc_11, bc_12, bc_13, bc_16, bc_22, bc_24, bc_32, bc_40, bc_41, bc_42, bc_43, bc_44, bc_45, bc_47, bc_48, bc_52, bc_57, bc_58, bc_59, bc_60, bc_61, bc_62, bc_63, bc_64, bc_76, bc_80, bc_97, bc_99, bc_105, bc_106, bc_107, bc_108, bc_109, bc_110, bc_111, bc_112, bc_113, bc_114, bc_115, bc_116, bc_117, bc_118, bc_119, bc_120, bc_121, bc_122, bc_255, bc_256, bc_400, bc_572, bc_999, bc_1024, bc_10000, bc_m2, bc_m3, bc_m8, bc_m100, bc_m200, B_bind, e1]
  · unfold mo_apart
    simp only [bc_0]
    show mo_apart_11 px_F 0 0 0 (B_t0 h1) = _
    have hA : ∀ c d : Bool, True := fun _ _ => trivial
    let g : Nat → Int32 × Int32 → Int32 × Int32 := fun t b => (b.1 ||| (if (!decide (S 9 t &&& S_at S P 0 = 0) && decide (S 9 t &&& S_at S P (nI 1) = 0)) = true then nI 1 <<< (nI t &&& 31) else 0), b.2 ||| (if (!decide (S 9 t &&& S_at S P (nI 1) = 0) && decide (S 9 t &&& S_at S P 0 = 0)) = true then nI 1 <<< (nI t &&& 31) else 0))
    have eL := B_loop0 (fun n b k => mo_apart_11 n b.1 b.2 (nI k) (B_t0 h1)) T g (fun b => px_bind (mo_tell b.1 (px_w (B_t0 h1) 51 13 0)) fun _ h3 => px_bind (mo_tell b.2 h3) fun _ h5 => some (b.1 ||| b.2, h5)) (by omega) (fun n b k hk => by
      simp (disch := omega) only [mo_apart_11, mo_apart_42, mo_apart_67, mo_apart_86, mo_apart_87, mo_apart_106, mo_apart_107, mT, a9, mo_peopleAt_s _ M1' W, bn_le, bn_lt, bn_eq, bn_le0, bn_0le, bn_lt0, bn_0lt, bn_eq0, bn_0eq, bn_eqm, bn_mlt0, bn_0lem, bn_m0, bn_mle0, bn_ltm, bn_mlt, bn_mle, bn_lem, nI_add, pk_mul, pk_sub, nI_clamp, B_n_nI, bn_0, bc_0, bc_m1, bc_1, bc_2, bc_3, bc_4, bc_5, bc_6, bc_7, bc_8, bc_9, bc_10, bc_11, bc_12, bc_13, bc_16, bc_22, bc_24, bc_32, bc_40, bc_41, bc_42, bc_43, bc_44, bc_45, bc_47, bc_48, bc_52, bc_57, bc_58, bc_59, bc_60, bc_61, bc_62, bc_63, bc_64, bc_76, bc_80, bc_97, bc_99, bc_105, bc_106, bc_107, bc_108, bc_109, bc_110, bc_111, bc_112, bc_113, bc_114, bc_115, bc_116, bc_117, bc_118, bc_119, bc_120, bc_121, bc_122, bc_255, bc_256, bc_400, bc_572, bc_999, bc_1024, bc_10000, bc_m2, bc_m3, bc_m8, bc_m100, bc_m200, B_bind, B_bind_if, B_ift, B_bz0, B_bz1, B_01_bz, B_01_e0, B_01_e1, if_pos, if_neg, reduceIte, Bool.false_eq_true, Bool.true_eq_false, po_52, pz_52, po_53, pz_53, po_54, pz_54, po_55, pz_55, po_56, pz_56, po_57, pz_57, po_58, pz_58, po_59, pz_59, po_60, pz_60, po_61, pz_61, po_62, pz_62, po_63, pz_63, po_64, pz_64, po_65, pz_65, po_66, pz_66, po_67, pz_67, po_68, pz_68, po_69, pz_69, po_70, pz_70, po_71, pz_71, po_72, pz_72, po_73, pz_73, po_74, pz_74, po_75, pz_75, po_76, pz_76, po_77, pz_77, po_78, pz_78, po_79, pz_79, po_80, pz_80, po_81, pz_81, g]
      by_cases q0 : S 9 k &&& S_at S P 0 = 0 <;> by_cases q1 : S 9 k &&& S_at S P (nI 1) = 0 <;> simp [q0, q1, bn_10]) (fun n b => by
      simp (disch := omega) only [mo_apart_11, mT, bn_le, bn_lt, bn_eq, bn_le0, bn_0le, bn_lt0, bn_0lt, bn_eq0, bn_0eq, bn_eqm, bn_mlt0, bn_0lem, bn_m0, bn_mle0, bn_ltm, bn_mlt, bn_mle, bn_lem, nI_add, pk_mul, pk_sub, nI_clamp, B_n_nI, bn_0, bc_0, bc_m1, bc_1, bc_2, bc_3, bc_4, bc_5, bc_6, bc_7, bc_8, bc_9, bc_10, bc_11, bc_12, bc_13, bc_16, bc_22, bc_24, bc_32, bc_40, bc_41, bc_42, bc_43, bc_44, bc_45, bc_47, bc_48, bc_52, bc_57, bc_58, bc_59, bc_60, bc_61, bc_62, bc_63, bc_64, bc_76, bc_80, bc_97, bc_99, bc_105, bc_106, bc_107, bc_108, bc_109, bc_110, bc_111, bc_112, bc_113, bc_114, bc_115, bc_116, bc_117, bc_118, bc_119, bc_120, bc_121, bc_122, bc_255, bc_256, bc_400, bc_572, bc_999, bc_1024, bc_10000, bc_m2, bc_m3, bc_m8, bc_m100, bc_m200, B_bind, B_bind_if, B_ift, B_bz0, B_bz1, B_01_bz, B_01_e0, B_01_e1, if_pos, if_neg, reduceIte, Bool.false_eq_true, Bool.true_eq_false]) (0, 0)
    rw [bn_0] at eL
    rw [show mo_apart_11 px_F 0 0 0 (B_t0 h1) = _ from eL]
    have hsplit : ∀ m k (x y : Int32), B_fold g k m (x, y) = (B_fold (fun t a => a ||| (if (!decide (S 9 t &&& S_at S P 0 = 0) && decide (S 9 t &&& S_at S P (nI 1) = 0)) = true then nI 1 <<< (nI t &&& 31) else 0)) k m x, B_fold (fun t a => a ||| (if (!decide (S 9 t &&& S_at S P (nI 1) = 0) && decide (S 9 t &&& S_at S P 0 = 0)) = true then nI 1 <<< (nI t &&& 31) else 0)) k m y) := by
      intro m
      induction m with
      | zero => intro k x y; rfl
      | succ m ih => intro k x y; exact ih (k + 1) _ _
    rw [hsplit]
    have eX : B_fold (fun t a => a ||| (if (!decide (S 9 t &&& S_at S P 0 = 0) && decide (S 9 t &&& S_at S P (nI 1) = 0)) = true then nI 1 <<< (nI t &&& 31) else 0)) 0 T 0 = S_kat S T (S_at S P 0) &&& (S_kat S T (S_at S P (nI 1)) ^^^ -1) := B_ext fun k hk => by
      rw [show B_fold _ 0 T 0 = B_set (fun t => !decide (S 9 t &&& S_at S P 0 = 0) && decide (S 9 t &&& S_at S P (nI 1) = 0)) T from rfl, B_bit_and, B_bit_not _ hk]
      unfold S_kat
      rw [B_set_bit (by omega) hk, B_set_bit (by omega) hk, B_set_bit (by omega) hk]
      by_cases q : k < T <;> by_cases q0 : S 9 k &&& S_at S P 0 = 0 <;> by_cases q1 : S 9 k &&& S_at S P (nI 1) = 0 <;> simp [q, q0, q1]
    have eY : B_fold (fun t a => a ||| (if (!decide (S 9 t &&& S_at S P (nI 1) = 0) && decide (S 9 t &&& S_at S P 0 = 0)) = true then nI 1 <<< (nI t &&& 31) else 0)) 0 T 0 = S_kat S T (S_at S P (nI 1)) &&& (S_kat S T (S_at S P 0) ^^^ -1) := B_ext fun k hk => by
      rw [show B_fold _ 0 T 0 = B_set (fun t => !decide (S 9 t &&& S_at S P (nI 1) = 0) && decide (S 9 t &&& S_at S P 0 = 0)) T from rfl, B_bit_and, B_bit_not _ hk]
      unfold S_kat
      rw [B_set_bit (by omega) hk, B_set_bit (by omega) hk, B_set_bit (by omega) hk]
      by_cases q : k < T <;> by_cases q0 : S 9 k &&& S_at S P 0 = 0 <;> by_cases q1 : S 9 k &&& S_at S P (nI 1) = 0 <;> simp [q, q0, q1]
    rw [eX, eY]
    simp only [e2, e3, B_bind]
    refine congrArg some (Prod.ext (B_ext fun k hk => ?_) rfl)
    show B_bit (_ ||| _) k = B_bit (_ ^^^ _) k
    rw [B_bit_or, B_bit_and, B_bit_and, B_bit_not _ hk, B_bit_not _ hk, B_bit_xor]
    cases B_bit (S_kat S T (S_at S P 0)) k <;> cases B_bit (S_kat S T (S_at S P (nI 1))) k <;> rfl
end EASY
