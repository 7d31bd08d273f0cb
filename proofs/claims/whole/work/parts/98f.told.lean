/-! Layer B: person, thing, row: the plain halves -/
section TOLD
variable {i : Nat} {h : pH}
theorem mo_lost_s (h : pH) : mo_lost h = some (0, px_w h 51 14 (nI 1)) := by
  unfold mo_lost
  rw [bc_0, bc_1]
theorem B_t0_lost (h : pH) : px_w (B_t0 h) 51 14 (nI 1) = px_w h 51 14 (nI 1) := by
  unfold B_t0
  rw [px_w_w]
theorem B_lost (hI : Inv i h) : Inv (i + 5) (px_w h 51 14 (nI 1)) := by
  obtain ⟨P, T, K, Y, n, S, ev, I, r⟩ := hI
  exact B_q0 I r (B_fr.refl _ _) ((B_fr.refl _ _).w rfl) rfl rfl (by rw [B_w_at, if_neg (by decide)]) (B_w_cell _ _ _ (by decide))
theorem in_ex {v : Int32} {m : Nat} (hm : m < 2 ^ 31) (q : (decide ((0 : Int) ≤ v.toInt ∧ v.toInt ≤ (m : Int))) = true) : ∃ k, k ≤ m ∧ v = nI k := by
  have q' := of_decide_eq_true q
  refine ⟨v.toInt.toNat, by omega, ?_⟩
  apply Int32.toInt_inj.mp
  rw [nI_toInt (by omega)]
  omega
theorem B_row (hI : Inv i h) (v0 : Int32) : (∃ r h2, wu_row v0 h = some (r, h) ∧ mo_row v0 h = some (r, h2) ∧ h2 51 14 = 0 ∧ Inv (i + 5) h2) ∨ (∃ r h2, (v0 < 0 ∨ ¬ v0 < h 45 1) ∧ mo_row v0 h = some (r, h2) ∧ h2 51 14 = nI 1 ∧ Inv (i + 5) h2) := by
  obtain ⟨P, T, K, Y, n, S, ev, I, r⟩ := hI
  obtain ⟨N, hN, r1, r2, r3⟩ := id r
  have t0 : (0 : Int32).toInt = 0 := rfl
  have tN : (nI N - nI 1).toInt = (N : Int) - 1 := by
    have hd : ∀ N, N < 11 → (nI N - nI 1).toInt = (N : Int) - 1 := by decide
    exact hd N (by omega)
  have hmo : mo_row v0 h = if decide (0 ≤ v0.toInt ∧ v0.toInt ≤ (N : Int) - 1) = true then px_if (px_ok 0 59 v0) (some ((B_t0 h) 59 v0.toNatClampNeg, B_t0 h)) else some (0, px_w h 51 14 (nI 1)) := by
    unfold mo_row mo_row_32
    rw [bc_0, bc_1]
    show px_bind (mo_in v0 0 ((B_t0 h) 51 13 - nI 1) (B_t0 h)) _ = _
    rw [B_t0_at _ (by decide), r2, mo_in_eq, t0, tN, B_bind]
    cases q : decide (0 ≤ v0.toInt ∧ v0.toInt ≤ (N : Int) - 1) with
    | false => rw [if_pos (show B_01 false = 0 from rfl), mo_lost_s, B_bind, if_neg (by decide), B_t0_lost]
    | true => rw [if_neg (show ¬ B_01 true = 0 by decide), if_pos rfl]
  by_cases q : 0 ≤ v0.toInt ∧ v0.toInt ≤ (N : Int) - 1
  · obtain ⟨k, hk, rfl⟩ : ∃ k, k < N ∧ v0 = nI k := by
      refine ⟨v0.toInt.toNat, by omega, ?_⟩
      apply Int32.toInt_inj.mp
      rw [nI_toInt (by omega)]
      omega
    refine Or.inl ⟨h 46 k, B_t0 h, ?_, ?_, B_w_same _ _ _ _, B_qr I r⟩
    · unfold wu_row
      rw [if_neg (nI_pos (by omega)), r1, if_pos (nI_lt hk (by omega)), wa_46 (by omega), B_bind]
    · rw [hmo, decide_eq_true q, if_pos rfl, po_59 (by omega), B_ift, nI_clamp (by omega), B_t0_row _ (by decide), r3 k hk]
  · refine Or.inr ⟨0, px_w h 51 14 (nI 1), ?_, ?_, B_w_same _ _ _ _, B_lost ⟨P, T, K, Y, n, S, ev, I, r⟩⟩
    · rw [lt0_toInt, r1, Int32.lt_iff_toInt_lt, nI_toInt (by omega)]
      omega
    · rw [hmo, decide_eq_false q, if_neg (by decide)]
theorem B_thing (hI : Inv i h) (v0 v1 : Int32) : (∃ r h2, wu_thing v0 v1 h = some (r, h) ∧ mo_thing v0 v1 h = some (r, h2) ∧ h2 51 14 = 0 ∧ Inv (i + 5) h2) ∨ (∃ r h2, (hs_hasThing v0 h = some (0, h) ∨ (hs_hasThing v0 h = some (nI 1, h) ∧ ∀ k : Nat, k < 7 → ¬ v1 = nI k)) ∧ mo_thing v0 v1 h = some (r, h2) ∧ h2 51 14 = nI 1 ∧ Inv (i + 5) h2) := by
  obtain ⟨P, T, K, Y, n, S, ev, I, r⟩ := hI
  obtain ⟨R, M0, W, -⟩ := id I
  have M : R_m (B_t0 h) P T K Y S := M0.sm (B_t0_fr _).sm_d
  have h6 := W.1
  have h10 := W.2.1
  have t0 : (0 : Int32).toInt = 0 := rfl
  have t6 : (nI 6).toInt = 6 := rfl
  have hT := R.2.1
  have e23 : mo_thing_23 (B_t0 h) = some (0, px_w h 51 14 (nI 1)) := by
    unfold mo_thing_23
    rw [mo_lost_s, B_bind, B_t0_lost]
  by_cases q1 : B_is v0 T = true
  · obtain ⟨t, ht, rfl⟩ := B_is_ex q1 (by omega)
    have hhas : hs_hasThing (nI t) h = some (nI 1, h) := by rw [hs_hasThing_eq _ hT h10, q1]; rfl
    by_cases q : decide ((0 : Int) ≤ v1.toInt ∧ v1.toInt ≤ ((6 : Nat) : Int)) = true
    · obtain ⟨k, hk, rfl⟩ := in_ex (by decide) q
      refine Or.inl ?_
      obtain ⟨hP, hT, hK, hY, c0, c1, c2, c3, c4, c5, c6, c7, c8, c9, c10⟩ := R
      obtain ⟨⟨mP, mT, mK, mY, m0, m3, m5, m7, m10⟩, ⟨a1, a2, a4, a8, a6, a9⟩⟩ := M
      have hin : mo_in (nI k) 0 (nI 6) (B_t0 h) = some (B_01 true, B_t0 h) := by
        rw [mo_in_eq, t0, t6, decide_eq_true (by rw [nI_toInt (by omega)]; omega)]
      have hmo : mo_thing (nI t) (nI k) h = if nI k = 0 then some ((B_t0 h) 55 t, B_t0 h) else if nI k = nI 1 then some ((B_t0 h) 52 (12 + t), B_t0 h) else if nI k = nI 2 then some ((B_t0 h) 56 t, B_t0 h) else if nI k = nI 3 then some ((B_t0 h) 52 (32 + t), B_t0 h) else if nI k = nI 4 then some ((B_t0 h) 57 t, B_t0 h) else if nI k = nI 5 then some ((B_t0 h) 52 (22 + t), B_t0 h) else some ((B_t0 h) 52 (42 + t), B_t0 h) := by
        unfold mo_thing
        rw [bc_0]
        show px_bind (mo_isThing (nI t) (B_t0 h)) _ = _
        rw [mo_isThing_eq _ mT h10, q1, B_bind, if_neg (show ¬ B_01 true = 0 by decide), bc_6, hin, B_bind, if_neg (show ¬ B_01 true = 0 by decide)]
        simp (disch := omega) only [bc_0, bc_m1, bc_1, bc_2, bc_3, bc_4, bc_5, bc_6, bc_7, bc_8, bc_9, bc_10, bc_11, bc_12, bc_13, bc_16, bc_22, bc_24, bc_32, bc_40, bc_41, bc_42, bc_43, bc_44, bc_45, bc_47, bc_48, bc_52, bc_57, bc_58, bc_59, bc_60, bc_61, bc_62, bc_63, bc_64, bc_76, bc_80, bc_97, bc_99, bc_105, bc_106, bc_107, bc_108, bc_109, bc_110, bc_111, bc_112, bc_113, bc_114, bc_115, bc_116, bc_117, bc_118, bc_119, bc_120, bc_121, bc_122, bc_255, bc_256, bc_400, bc_572, bc_999, bc_1024, bc_10000, bc_m2, bc_m3, bc_m8, bc_m100, bc_m200, nI_add, po_52, po_55, po_56, po_57, B_ift, nI_clamp]
      have hcl : wu_thing (nI t) (nI k) h = if nI k = 0 then some (h 7 t, h) else if nI k = nI 1 then some (h 8 t, h) else if nI k = nI 2 then some (h 9 t, h) else if nI k = nI 3 then some (h 10 t, h) else if nI k = nI 4 then some (h 11 t, h) else if nI k = nI 5 then some (h 12 t, h) else if nI k = nI 6 then some (h 13 t, h) else none := by
        unfold wu_thing
        rw [hhas, B_bind, if_neg (by decide)]
        simp (disch := omega) only [bc_0, bc_m1, bc_1, bc_2, bc_3, bc_4, bc_5, bc_6, bc_7, bc_8, bc_9, bc_10, bc_11, bc_12, bc_13, bc_16, bc_22, bc_24, bc_32, bc_40, bc_41, bc_42, bc_43, bc_44, bc_45, bc_47, bc_48, bc_52, bc_57, bc_58, bc_59, bc_60, bc_61, bc_62, bc_63, bc_64, bc_76, bc_80, bc_97, bc_99, bc_105, bc_106, bc_107, bc_108, bc_109, bc_110, bc_111, bc_112, bc_113, bc_114, bc_115, bc_116, bc_117, bc_118, bc_119, bc_120, bc_121, bc_122, bc_255, bc_256, bc_400, bc_572, bc_999, bc_1024, bc_10000, bc_m2, bc_m3, bc_m8, bc_m100, bc_m200, wa_4, wz_4, wa_5, wz_5, wa_6, wz_6, wa_7, wz_7, wa_8, wz_8, wa_9, wz_9, wa_10, wz_10, wa_11, wz_11, wa_12, wz_12, wa_13, wz_13, wa_15, wz_15, wa_16, wz_16, wa_18, wz_18, wa_19, wz_19, wa_20, wz_20, wa_23, wz_23, wa_24, wz_24, wa_26, wz_26, wa_27, wz_27, wa_28, wz_28, wa_29, wz_29, wa_30, wz_30, wa_31, wz_31, wa_32, wz_32, wa_34, wz_34, wa_35, wz_35, wa_36, wz_36, wa_37, wz_37, wa_38, wz_38, wa_39, wz_39, wa_40, wz_40, wa_42, wz_42, wa_44, wz_44, wa_46, wz_46, wa_48, wz_48, wa_49, wz_49, wa_50, wz_50, B_bind]
      rw [hmo, hcl]
      have hQ := B_qr I r
      have g14 : (B_t0 h) 51 14 = 0 := B_w_same _ _ _ _
      have hk7 : k = 0 ∨ k = 1 ∨ k = 2 ∨ k = 3 ∨ k = 4 ∨ k = 5 ∨ k = 6 := by omega
      rcases hk7 with rfl | rfl | rfl | rfl | rfl | rfl | rfl
      · exact ⟨S 3 t, B_t0 h, by rw [if_pos (by decide), c3 t ht], by rw [if_pos (by decide), m3 t ht], g14, hQ⟩
      · exact ⟨S 4 t, B_t0 h, by rw [if_neg (by decide), if_pos rfl, c4 t ht], by rw [if_neg (by decide), if_pos rfl, a4 t ht], g14, hQ⟩
      · exact ⟨S 5 t, B_t0 h, by rw [if_neg (by decide), if_neg (by decide), if_pos rfl, c5 t ht], by rw [if_neg (by decide), if_neg (by decide), if_pos rfl, m5 t ht], g14, hQ⟩
      · exact ⟨S 6 t, B_t0 h, by rw [if_neg (by decide), if_neg (by decide), if_neg (by decide), if_pos rfl, c6 t ht], by rw [if_neg (by decide), if_neg (by decide), if_neg (by decide), if_pos rfl, a6 t ht], g14, hQ⟩
      · exact ⟨S 7 t, B_t0 h, by rw [if_neg (by decide), if_neg (by decide), if_neg (by decide), if_neg (by decide), if_pos rfl, c7 t ht], by rw [if_neg (by decide), if_neg (by decide), if_neg (by decide), if_neg (by decide), if_pos rfl, m7 t ht], g14, hQ⟩
      · exact ⟨S 8 t, B_t0 h, by rw [if_neg (by decide), if_neg (by decide), if_neg (by decide), if_neg (by decide), if_neg (by decide), if_pos rfl, c8 t ht], by rw [if_neg (by decide), if_neg (by decide), if_neg (by decide), if_neg (by decide), if_neg (by decide), if_pos rfl, a8 t ht], g14, hQ⟩
      · exact ⟨S 9 t, B_t0 h, by rw [if_neg (by decide), if_neg (by decide), if_neg (by decide), if_neg (by decide), if_neg (by decide), if_neg (by decide), if_pos rfl, c9 t ht], by rw [if_neg (by decide), if_neg (by decide), if_neg (by decide), if_neg (by decide), if_neg (by decide), if_neg (by decide), a9 t ht], g14, hQ⟩
    · have q' : ¬ ((0 : Int) ≤ v1.toInt ∧ v1.toInt ≤ 6) := fun w => q (decide_eq_true ⟨w.1, w.2⟩)
      refine Or.inr ⟨0, px_w h 51 14 (nI 1), Or.inr ⟨hhas, fun k hk e => q' (by rw [e, nI_toInt (by omega)]; omega)⟩, ?_, B_w_same _ _ _ _, B_lost ⟨P, T, K, Y, n, S, ev, I, r⟩⟩
      unfold mo_thing
      rw [bc_0]
      show px_bind (mo_isThing (nI t) (B_t0 h)) _ = _
      rw [mo_isThing_eq _ M.1.2.1 h10, q1, B_bind, if_neg (show ¬ B_01 true = 0 by decide), bc_6, mo_in_eq, t0, t6, decide_eq_false q', B_bind, if_pos (show B_01 false = 0 from rfl), e23]
  · have q1' : B_is v0 T = false := by simpa using q1
    refine Or.inr ⟨0, px_w h 51 14 (nI 1), Or.inl ?_, ?_, B_w_same _ _ _ _, B_lost ⟨P, T, K, Y, n, S, ev, I, r⟩⟩
    · rw [hs_hasThing_eq _ hT h10, q1']
      rfl
    · unfold mo_thing
      rw [bc_0]
      show px_bind (mo_isThing v0 (B_t0 h)) _ = _
      rw [mo_isThing_eq _ M.1.2.1 h10, q1', B_bind, if_pos (show B_01 false = 0 from rfl), e23]
theorem B_person (hI : Inv i h) (v0 v1 : Int32) : (∃ r h2, wu_person v0 v1 h = some (r, h) ∧ mo_person v0 v1 h = some (r, h2) ∧ h2 51 14 = 0 ∧ Inv (i + 5) h2) ∨ (∃ r h2, (hs_hasPerson v0 h = some (0, h) ∨ (hs_hasPerson v0 h = some (nI 1, h) ∧ ∀ k : Nat, k < 6 → ¬ v1 = nI k)) ∧ mo_person v0 v1 h = some (r, h2) ∧ h2 51 14 = nI 1 ∧ Inv (i + 5) h2) := by
  obtain ⟨P, T, K, Y, n, S, ev, I, r⟩ := hI
  obtain ⟨R, M0, W, -⟩ := id I
  have M : R_m (B_t0 h) P T K Y S := M0.sm (B_t0_fr _).sm_d
  have h6 := W.1
  have h10 := W.2.1
  have t0 : (0 : Int32).toInt = 0 := rfl
  have t5 : (nI 5).toInt = 5 := rfl
  have hP := R.1
  have e22 : mo_person_22 (B_t0 h) = some (0, px_w h 51 14 (nI 1)) := by
    unfold mo_person_22
    rw [mo_lost_s, B_bind, B_t0_lost]
  by_cases q1 : B_is v0 P = true
  · obtain ⟨p, hp, rfl⟩ := B_is_ex q1 (by omega)
    have hhas : hs_hasPerson (nI p) h = some (nI 1, h) := by rw [hs_hasPerson_eq _ hP h6, q1]; rfl
    by_cases q : decide ((0 : Int) ≤ v1.toInt ∧ v1.toInt ≤ ((5 : Nat) : Int)) = true
    · obtain ⟨k, hk, rfl⟩ := in_ex (by decide) q
      refine Or.inl ?_
      have hin : mo_in (nI k) 0 (nI 5) (B_t0 h) = some (B_01 true, B_t0 h) := by
        rw [mo_in_eq, t0, t5, decide_eq_true (by rw [nI_toInt (by omega)]; omega)]
      have hu : ∀ k, T ≤ k → k < 10 → B_bit (S_uns S T (nI 1 <<< (nI p &&& 31))) k = false := fun k h1 h2 => by
        unfold S_uns
        rw [B_set_bit (by omega) (by omega), decide_eq_false (by omega), Bool.false_and]
      have f2 := mo_thingsOf_s (p := p) (a := 52) (by omega) rfl rfl M.1 M.2 W
      have f3 := mo_knownBy_s (p := p) (by omega) M W
      have f4 := mo_unsaid_s (p := p) (a := 52) (by omega) rfl rfl M.1 M.2 W
      have f5 := mo_leftIn_s (a := 52) hu rfl rfl M.1 M.2 W
      have g2 := hs_thingsOf_s (nI 1 <<< (nI p &&& 31)) R W
      have g3 := hs_knownBy_s (p := p) (by omega) R W
      have g4 := hs_unsaidOf_s (nI 1 <<< (nI p &&& 31)) R W
      have g5 := hs_wordsLeft_s (S_uns S T (nI 1 <<< (nI p &&& 31))) R W
      obtain ⟨hP, hT, hK, hY, c0, c1, c2, c3, c4, c5, c6, c7, c8, c9, c10⟩ := R
      obtain ⟨⟨mP, mT, mK, mY, m0, m3, m5, m7, m10⟩, ⟨a1, a2, a4, a8, a6, a9⟩⟩ := M
      have hmo : mo_person (nI p) (nI k) h = if nI k = 0 then some ((B_t0 h) 54 p, B_t0 h) else if nI k = nI 1 then some ((B_t0 h) 52 p, B_t0 h) else if nI k = nI 2 then some (S_of S T (nI 1 <<< (nI p &&& 31)), B_t0 h) else if nI k = nI 3 then some (S_kby S T p, B_t0 h) else if nI k = nI 4 then some (S_left S T (S_uns S T (nI 1 <<< (nI p &&& 31))), B_t0 h) else some ((B_t0 h) 52 (6 + p), B_t0 h) := by
        unfold mo_person
        rw [bc_0]
        show px_bind (mo_isPerson (nI p) (B_t0 h)) _ = _
        rw [mo_isPerson_eq _ mP h6, q1, B_bind, if_neg (show ¬ B_01 true = 0 by decide), bc_5, hin, B_bind, if_neg (show ¬ B_01 true = 0 by decide)]
        simp (disch := omega) only [bc_0, bc_m1, bc_1, bc_2, bc_3, bc_4, bc_5, bc_6, bc_7, bc_8, bc_9, bc_10, bc_11, bc_12, bc_13, bc_16, bc_22, bc_24, bc_32, bc_40, bc_41, bc_42, bc_43, bc_44, bc_45, bc_47, bc_48, bc_52, bc_57, bc_58, bc_59, bc_60, bc_61, bc_62, bc_63, bc_64, bc_76, bc_80, bc_97, bc_99, bc_105, bc_106, bc_107, bc_108, bc_109, bc_110, bc_111, bc_112, bc_113, bc_114, bc_115, bc_116, bc_117, bc_118, bc_119, bc_120, bc_121, bc_122, bc_255, bc_256, bc_400, bc_572, bc_999, bc_1024, bc_10000, bc_m2, bc_m3, bc_m8, bc_m100, bc_m200, nI_add, po_52, po_54, B_ift, nI_clamp, f2, f3, f4, f5, B_bind]
      have hcl : wu_person (nI p) (nI k) h = if nI k = 0 then some (h 4 p, h) else if nI k = nI 1 then some (h 5 p, h) else if nI k = nI 2 then some (S_of S T (nI 1 <<< (nI p &&& 31)), h) else if nI k = nI 3 then some (S_kby S T p, h) else if nI k = nI 4 then some (S_left S T (S_uns S T (nI 1 <<< (nI p &&& 31))), h) else if nI k = nI 5 then some (h 6 p, h) else none := by
        unfold wu_person
        rw [hhas, B_bind, if_neg (by decide)]
        simp (disch := omega) only [bc_0, bc_m1, bc_1, bc_2, bc_3, bc_4, bc_5, bc_6, bc_7, bc_8, bc_9, bc_10, bc_11, bc_12, bc_13, bc_16, bc_22, bc_24, bc_32, bc_40, bc_41, bc_42, bc_43, bc_44, bc_45, bc_47, bc_48, bc_52, bc_57, bc_58, bc_59, bc_60, bc_61, bc_62, bc_63, bc_64, bc_76, bc_80, bc_97, bc_99, bc_105, bc_106, bc_107, bc_108, bc_109, bc_110, bc_111, bc_112, bc_113, bc_114, bc_115, bc_116, bc_117, bc_118, bc_119, bc_120, bc_121, bc_122, bc_255, bc_256, bc_400, bc_572, bc_999, bc_1024, bc_10000, bc_m2, bc_m3, bc_m8, bc_m100, bc_m200, wa_4, wz_4, wa_5, wz_5, wa_6, wz_6, wa_7, wz_7, wa_8, wz_8, wa_9, wz_9, wa_10, wz_10, wa_11, wz_11, wa_12, wz_12, wa_13, wz_13, wa_15, wz_15, wa_16, wz_16, wa_18, wz_18, wa_19, wz_19, wa_20, wz_20, wa_23, wz_23, wa_24, wz_24, wa_26, wz_26, wa_27, wz_27, wa_28, wz_28, wa_29, wz_29, wa_30, wz_30, wa_31, wz_31, wa_32, wz_32, wa_34, wz_34, wa_35, wz_35, wa_36, wz_36, wa_37, wz_37, wa_38, wz_38, wa_39, wz_39, wa_40, wz_40, wa_42, wz_42, wa_44, wz_44, wa_46, wz_46, wa_48, wz_48, wa_49, wz_49, wa_50, wz_50, B_bind, g2, g3, g4, g5]
      rw [hmo, hcl]
      have hQ := B_qr I r
      have g14 : (B_t0 h) 51 14 = 0 := B_w_same _ _ _ _
      have hk7 : k = 0 ∨ k = 1 ∨ k = 2 ∨ k = 3 ∨ k = 4 ∨ k = 5 := by omega
      rcases hk7 with rfl | rfl | rfl | rfl | rfl | rfl
      · exact ⟨S 0 p, B_t0 h, by rw [if_pos (by decide), c0 p hp], by rw [if_pos (by decide), m0 p hp], g14, hQ⟩
      · exact ⟨S 1 p, B_t0 h, by rw [if_neg (by decide), if_pos rfl, c1 p hp], by rw [if_neg (by decide), if_pos rfl, a1 p hp], g14, hQ⟩
      · exact ⟨_, B_t0 h, by rw [if_neg (by decide), if_neg (by decide), if_pos rfl], by rw [if_neg (by decide), if_neg (by decide), if_pos rfl], g14, hQ⟩
      · exact ⟨_, B_t0 h, by rw [if_neg (by decide), if_neg (by decide), if_neg (by decide), if_pos rfl], by rw [if_neg (by decide), if_neg (by decide), if_neg (by decide), if_pos rfl], g14, hQ⟩
      · exact ⟨_, B_t0 h, by rw [if_neg (by decide), if_neg (by decide), if_neg (by decide), if_neg (by decide), if_pos rfl], by rw [if_neg (by decide), if_neg (by decide), if_neg (by decide), if_neg (by decide), if_pos rfl], g14, hQ⟩
      · exact ⟨S 2 p, B_t0 h, by rw [if_neg (by decide), if_neg (by decide), if_neg (by decide), if_neg (by decide), if_neg (by decide), if_pos rfl, c2 p hp], by rw [if_neg (by decide), if_neg (by decide), if_neg (by decide), if_neg (by decide), if_neg (by decide), a2 p hp], g14, hQ⟩
    · have q' : ¬ ((0 : Int) ≤ v1.toInt ∧ v1.toInt ≤ 5) := fun w => q (decide_eq_true ⟨w.1, w.2⟩)
      refine Or.inr ⟨0, px_w h 51 14 (nI 1), Or.inr ⟨hhas, fun k hk e => q' (by rw [e, nI_toInt (by omega)]; omega)⟩, ?_, B_w_same _ _ _ _, B_lost ⟨P, T, K, Y, n, S, ev, I, r⟩⟩
      unfold mo_person
      rw [bc_0]
      show px_bind (mo_isPerson (nI p) (B_t0 h)) _ = _
      rw [mo_isPerson_eq _ M.1.1 h6, q1, B_bind, if_neg (show ¬ B_01 true = 0 by decide), bc_5, mo_in_eq, t0, t5, decide_eq_false q', B_bind, if_pos (show B_01 false = 0 from rfl), e22]
  · have q1' : B_is v0 P = false := by simpa using q1
    refine Or.inr ⟨0, px_w h 51 14 (nI 1), Or.inl ?_, ?_, B_w_same _ _ _ _, B_lost ⟨P, T, K, Y, n, S, ev, I, r⟩⟩
    · rw [hs_hasPerson_eq _ hP h6, q1']
      rfl
    · unfold mo_person
      rw [bc_0]
      show px_bind (mo_isPerson v0 (B_t0 h)) _ = _
      rw [mo_isPerson_eq _ M.1.1 h6, q1', B_bind, if_pos (show B_01 false = 0 from rfl), e22]
end TOLD
