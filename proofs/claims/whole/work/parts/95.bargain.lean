/-! Layer B: bargain, sheet, keeps -/
section BARGAIN
variable {i : Nat} {h : pH} {P T K Y n : Nat} {S : pH} {ev : pE}
theorem S_nsell_iff {x y z : Int32} : 0 ≤ S_nsell S P T x y z ↔ S_nsell S P T x y z = 0 := by
  unfold S_nsell
  split
  · split
    · split
      · decide
      · split
        · decide
        · split
          · decide
          · decide
    · decide
  · decide
def S_bg (S : pH) (P T : Nat) (x y : Int32) (t : Nat) (st : Option Nat) : Option Nat := if S_nsell S P T x y (nI t) = 0 then (match st with
  | none => some t
  | some b => if S 4 t * S_price S b ≤ S 4 b * S_price S t then some b else some t) else st
theorem S_nsell_l {p o t : Nat} (ht : t < T) (hT : T ≤ 10) (q : S_nsell S P T (nI p) (nI o) (nI t) = 0) : ¬ S 4 t = 0 := by
  intro e
  unfold S_nsell at q
  rw [B_n_nI (show t < 2 ^ 31 by omega), e] at q
  simp at q
theorem B_bargain (hI : Inv i h) (v0 v1 : Int32) : ∃ r h1 h2, wu_bargain v0 v1 h = some (r, h1) ∧ mo_bargain v0 v1 h1 = some (r, h2) ∧ Inv (i + 5) h2 := by
  refine B_call hI (fun P T K Y n S ev I r R M W => ?_)
  have h6 := W.1
  have h10 := W.2.1
  have w4 := W.2.2.2.2.2.2.2.2.1
  have e52 : ∀ hh, wu_bargain_52 hh = some (-1, hh) := fun hh => by unfold wu_bargain_52; rw [bc_m1]
  have e29 : ∀ hh, mo_bargain_29 hh = some (-1, hh) := fun hh => by unfold mo_bargain_29; rw [bc_m1]
  have hmo : ∀ h1, R_m (B_t0 h1) P T K Y S → mo_bargain v0 v1 h1 = if (B_is v0 P && B_is v1 P && !decide (v0 = v1)) = true then (if S 1 (B_n v0) = S 1 (B_n v1) then mo_bargain_37 px_F v0 v1 (-2) 0 (B_t0 h1) else some (-1, B_t0 h1)) else some (-1, B_t0 h1) := fun h1 M1 => by
    unfold mo_bargain
    rw [bc_0, bc_m2]
    show px_bind (mo_areTwo v0 v1 (B_t0 h1)) _ = _
    rw [mo_areTwo_s _ _ M1.1 W, B_bind]
    cases q : (B_is v0 P && B_is v1 P && !decide (v0 = v1)) with
    | false => rw [if_pos (show B_01 false = 0 from rfl), e29, if_neg (by decide)]
    | true =>
      simp only [Bool.and_eq_true] at q
      obtain ⟨p, hp, rfl⟩ := B_is_ex q.1.1 (by omega)
      obtain ⟨o, ho, rfl⟩ := B_is_ex q.1.2 (by omega)
      rw [if_neg (by decide), if_pos rfl, po_52 (by omega), B_ift, po_52 (by omega), B_ift, nI_clamp (by omega), nI_clamp (by omega), M1.2.1 p hp, M1.2.1 o ho, B_n_nI (by omega), B_n_nI (by omega), e29]
  have hcl : wu_bargain v0 v1 h = if (B_is v0 P && B_is v1 P && !decide (v0 = v1)) = true then (if S 1 (B_n v0) = S 1 (B_n v1) then wu_bargain_65 px_F v0 v1 (-1) (nI 1) 0 0 h else some (-1, h)) else some (-1, h) := by
    unfold wu_bargain
    rw [bc_0, bc_m1, bc_1, hs_hasPerson_eq _ R.1 h6, B_bind]
    cases hx : B_is v0 P with
    | false => rw [if_pos (show B_01 false = 0 from rfl), e52, if_neg (by simp)]
    | true =>
      rw [if_neg (by decide), hs_hasPerson_eq _ R.1 h6, B_bind]
      cases hy : B_is v1 P with
      | false => rw [if_pos (show B_01 false = 0 from rfl), e52, if_neg (by simp)]
      | true =>
        obtain ⟨p, hp, rfl⟩ := B_is_ex hx (by omega)
        obtain ⟨o, ho, rfl⟩ := B_is_ex hy (by omega)
        rw [if_neg (by decide)]
        by_cases q : nI p = nI o
        · rw [if_pos q, e52, if_neg (by simp [q])]
        · rw [if_neg q, if_pos (by simp [q]), wa_5 (by omega), B_bind, wa_5 (by omega), B_bind, R.2.2.2.2.2.1 p hp, R.2.2.2.2.2.1 o ho, B_n_nI (by omega), B_n_nI (by omega), e52]
  by_cases q : (B_is v0 P && B_is v1 P && !decide (v0 = v1)) = true
  · by_cases q2 : S 1 (B_n v0) = S 1 (B_n v1)
    · have q' := q
      simp only [Bool.and_eq_true] at q'
      obtain ⟨p, hp, rfl⟩ := B_is_ex q'.1.1 (by omega)
      obtain ⟨o, ho, rfl⟩ := B_is_ex q'.1.2 (by omega)
      let g : Nat → Option Nat → Option Nat := fun t st => S_bg S P T (nI p) (nI o) t st
      let J : Nat → Option Nat → Prop := fun k st => ∀ b, st = some b → b < k
      have hJ : ∀ k st, J k st → J (k + 1) (g k st) := fun k st hj b hb => by
        dsimp only [g] at hb
        unfold S_bg at hb
        split at hb
        · split at hb
          · cases hb
            omega
          · split at hb
            · cases hb
              have := hj _ rfl
              omega
            · cases hb
              omega
        · have := hj b hb
          omega
      let ec : Option Nat → Int32 × Int32 × Int32 := fun st => match st with
        | none => (-1, nI 1, 0)
        | some b => (nI b, S_price S b, S 4 b)
      let em : Option Nat → Int32 := fun st => match st with
        | none => -2
        | some b => nI b
      have hpr : ∀ t, t < T → ∃ v, v ≤ 8 ∧ S_price S t = nI v := fun t ht => by
        obtain ⟨v, hv, e⟩ := w4 t ht
        refine ⟨(v + 4) / 5, by omega, ?_⟩
        unfold S_price
        rw [e, nI_add, pk_div (by omega) (by omega) (by omega)]
      have eC := B_loopI (fun n st k => wu_bargain_65 n (nI p) (nI o) (ec st).1 (ec st).2.1 (ec st).2.2 (nI k) h) T g (fun st => if (ec st).1 = -1 then some (-2, h) else px_bind (tl_tell_ (ec st).2.1 (ec st).2.2 h) fun _ h2 => some ((ec st).1, h2)) J (fun n st k hk hj => ⟨by
        have c4 := R.2.2.2.2.2.2.2.2.1 k hk
        have epr : hs_price (nI k) h = some (S_price S k, h) := hs_price_s hk R W
        obtain ⟨L, hL, eL⟩ := w4 k hk
        obtain ⟨v, hv, ev⟩ := hpr k hk
        simp (disch := omega) only [wu_bargain_65, wu_bargain_140, R.2.1, c4, epr, hs_whyNotSell_s _ _ _ R W, bn_le, bn_lt, bn_eq, bn_le0, bn_0le, bn_lt0, bn_0lt, bn_eq0, bn_0eq, bn_eqm, bn_mlt0, bn_0lem, bn_m0, bn_mle0, bn_ltm, bn_mlt, bn_mle, bn_lem, nI_add, pk_mul, pk_sub, nI_clamp, B_n_nI, bn_0, bc_0, bc_m1, bc_1, bc_2, bc_3, bc_4, bc_5, bc_6, bc_7, bc_8, bc_9, bc_10, bc_11, bc_12, bc_13, bc_16, bc_22, bc_24, bc_32, bc_40, bc_41, bc_42, bc_43, bc_44, bc_45, bc_47, bc_48, bc_52, bc_57, bc_58, bc_59, bc_60, bc_61, bc_62, bc_63, bc_64, bc_76, bc_80, bc_97, bc_99, bc_105, bc_106, bc_107, bc_108, bc_109, bc_110, bc_111, bc_112, bc_113, bc_114, bc_115, bc_116, bc_117, bc_118, bc_119, bc_120, bc_121, bc_122, bc_255, bc_256, bc_400, bc_572, bc_999, bc_1024, bc_10000, bc_m2, bc_m3, bc_m8, bc_m100, bc_m200, B_bind, if_neg, wa_4, wz_4, wa_5, wz_5, wa_6, wz_6, wa_7, wz_7, wa_8, wz_8, wa_9, wz_9, wa_10, wz_10, wa_11, wz_11, wa_12, wz_12, wa_13, wz_13, wa_15, wz_15, wa_16, wz_16, wa_18, wz_18, wa_19, wz_19, wa_20, wz_20, wa_23, wz_23, wa_24, wz_24, wa_26, wz_26, wa_27, wz_27, wa_28, wz_28, wa_29, wz_29, wa_30, wz_30, wa_31, wz_31, wa_32, wz_32, wa_34, wz_34, wa_35, wz_35, wa_36, wz_36, wa_37, wz_37, wa_38, wz_38, wa_39, wz_39, wa_40, wz_40, wa_42, wz_42, wa_44, wz_44, wa_46, wz_46, wa_48, wz_48, wa_49, wz_49, wa_50, wz_50]
        dsimp only [g]
        unfold S_bg
        by_cases w : S_nsell S P T (nI p) (nI o) (nI k) = 0
        · have hl0 := S_nsell_l hk h10 w
          simp only [w, if_true]
          cases st with
          | none =>
            have hn : ¬ (S 4 k * nI 1 ≤ 0 * S_price S k) := by
              rw [eL, ev, ← nI_0, pk_mul, pk_mul, nI_leI (by omega) (by omega)]
              rw [eL, ← nI_0, nI_eq (by omega) (by omega)] at hl0
              omega
            simp only [ec, hn, if_false]
          | some b =>
            simp only [ec]
            by_cases z : S 4 k * S_price S b ≤ S 4 b * S_price S k
            · simp only [z, if_true]
            · simp only [z, if_false]
        · simp only [w, if_false], hJ k st hj⟩) (fun n st _ => by
        simp (disch := omega) only [wu_bargain_65, R.2.1, bn_le, bn_lt, bn_eq, bn_le0, bn_0le, bn_lt0, bn_0lt, bn_eq0, bn_0eq, bn_eqm, bn_mlt0, bn_0lem, bn_m0, bn_mle0, bn_ltm, bn_mlt, bn_mle, bn_lem, nI_add, pk_mul, pk_sub, nI_clamp, B_n_nI, bn_0, bc_0, bc_m1, bc_1, bc_2, bc_3, bc_4, bc_5, bc_6, bc_7, bc_8, bc_9, bc_10, bc_11, bc_12, bc_13, bc_16, bc_22, bc_24, bc_32, bc_40, bc_41, bc_42, bc_43, bc_44, bc_45, bc_47, bc_48, bc_52, bc_57, bc_58, bc_59, bc_60, bc_61, bc_62, bc_63, bc_64, bc_76, bc_80, bc_97, bc_99, bc_105, bc_106, bc_107, bc_108, bc_109, bc_110, bc_111, bc_112, bc_113, bc_114, bc_115, bc_116, bc_117, bc_118, bc_119, bc_120, bc_121, bc_122, bc_255, bc_256, bc_400, bc_572, bc_999, bc_1024, bc_10000, bc_m2, bc_m3, bc_m8, bc_m100, bc_m200, if_pos]) T 0 px_F none (by omega) (px_F_lt (by omega)) (fun b hb => by cases hb)
      have hF := B_loopI (fun n (st : Option Nat) k => J k st) T g (fun st => J T st) J (fun n st k hk hj => ⟨propext ⟨fun _ => hJ k st hj, fun _ => hj⟩, hJ k st hj⟩) (fun n st hj => rfl) T 0 px_F none (by omega) (px_F_lt (by omega)) (fun b hb => by cases hb)
      have hJF : J T (B_fold g 0 T none) := by
        rw [← hF]
        exact fun b hb => by cases hb
      have eM : ∀ h1, R_m (B_t0 h1) P T K Y S → mo_bargain_37 px_F (nI p) (nI o) (-2) 0 (B_t0 h1) = (match B_fold g 0 T none with
          | none => some (-2, B_t0 h1)
          | some b => px_bind (mo_tell (S_price S b) (px_w (B_t0 h1) 51 13 0)) fun _ h3 => px_bind (mo_tell (S 4 b) h3) fun _ h5 => some (nI b, h5)) := fun h1 M1 => by
        have e := B_loopI (fun n st k => mo_bargain_37 n (nI p) (nI o) (em st) (nI k) (B_t0 h1)) T g (fun st => match st with
          | none => some (-2, B_t0 h1)
          | some b => px_bind (mo_tell (S_price S b) (px_w (B_t0 h1) 51 13 0)) fun _ h3 => px_bind (mo_tell (S 4 b) h3) fun _ h5 => some (nI b, h5)) J (fun n st k hk hj => ⟨by
          have a4 := M1.2.2.2.1 k hk
          simp (disch := omega) only [mo_bargain_37, mo_bargain_99, mo_bargain_102, M1.1.2.1, mo_refusesSell_s _ _ _ M1 W, S_nsell_iff, bn_le, bn_lt, bn_eq, bn_le0, bn_0le, bn_lt0, bn_0lt, bn_eq0, bn_0eq, bn_eqm, bn_mlt0, bn_0lem, bn_m0, bn_mle0, bn_ltm, bn_mlt, bn_mle, bn_lem, nI_add, pk_mul, pk_sub, nI_clamp, B_n_nI, bn_0, bc_0, bc_m1, bc_1, bc_2, bc_3, bc_4, bc_5, bc_6, bc_7, bc_8, bc_9, bc_10, bc_11, bc_12, bc_13, bc_16, bc_22, bc_24, bc_32, bc_40, bc_41, bc_42, bc_43, bc_44, bc_45, bc_47, bc_48, bc_52, bc_57, bc_58, bc_59, bc_60, bc_61, bc_62, bc_63, bc_64, bc_76, bc_80, bc_97, bc_99, bc_105, bc_106, bc_107, bc_108, bc_109, bc_110, bc_111, bc_112, bc_113, bc_114, bc_115, bc_116, bc_117, bc_118, bc_119, bc_120, bc_121, bc_122, bc_255, bc_256, bc_400, bc_572, bc_999, bc_1024, bc_10000, bc_m2, bc_m3, bc_m8, bc_m100, bc_m200, B_bind, if_neg]
          dsimp only [g]
          unfold S_bg
          by_cases w : S_nsell S P T (nI p) (nI o) (nI k) = 0
          · simp only [w, if_true]
            cases st with
            | none => simp only [em, show ((-2 : Int32) < 0) = True from by decide, if_true]
            | some b =>
              have hb := hj b rfl
              have a4b := M1.2.2.2.1 b (by omega)
              simp (disch := omega) only [em, bn_lt0, if_false, mo_priceOf_s hk M1 W, mo_priceOf_s (show b < T by omega) M1 W, a4, a4b, bn_le, bn_lt, bn_eq, bn_le0, bn_0le, bn_lt0, bn_0lt, bn_eq0, bn_0eq, bn_eqm, bn_mlt0, bn_0lem, bn_m0, bn_mle0, bn_ltm, bn_mlt, bn_mle, bn_lem, nI_add, pk_mul, pk_sub, nI_clamp, B_n_nI, bn_0, bc_0, bc_m1, bc_1, bc_2, bc_3, bc_4, bc_5, bc_6, bc_7, bc_8, bc_9, bc_10, bc_11, bc_12, bc_13, bc_16, bc_22, bc_24, bc_32, bc_40, bc_41, bc_42, bc_43, bc_44, bc_45, bc_47, bc_48, bc_52, bc_57, bc_58, bc_59, bc_60, bc_61, bc_62, bc_63, bc_64, bc_76, bc_80, bc_97, bc_99, bc_105, bc_106, bc_107, bc_108, bc_109, bc_110, bc_111, bc_112, bc_113, bc_114, bc_115, bc_116, bc_117, bc_118, bc_119, bc_120, bc_121, bc_122, bc_255, bc_256, bc_400, bc_572, bc_999, bc_1024, bc_10000, bc_m2, bc_m3, bc_m8, bc_m100, bc_m200, B_bind, B_ift, po_52, pz_52, po_53, pz_53, po_54, pz_54, po_55, pz_55, po_56, pz_56, po_57, pz_57, po_58, pz_58, po_59, pz_59, po_60, pz_60, po_61, pz_61, po_62, pz_62, po_63, pz_63, po_64, pz_64, po_65, pz_65, po_66, pz_66, po_67, pz_67, po_68, pz_68, po_69, pz_69, po_70, pz_70, po_71, pz_71, po_72, pz_72, po_73, pz_73, po_74, pz_74, po_75, pz_75, po_76, pz_76, po_77, pz_77, po_78, pz_78, po_79, pz_79, po_80, pz_80, po_81, pz_81]
              by_cases z : S 4 k * S_price S b ≤ S 4 b * S_price S k
              · simp only [z, if_true]
              · simp only [z, if_false]
          · simp only [w, if_false], hJ k st hj⟩) (fun n st hj => by
          cases st with
          | none => simp (disch := omega) only [mo_bargain_37, M1.1.2.1, em, show ((0 : Int32) ≤ -2) = False from by decide, if_false, bn_le, bn_lt, bn_eq, bn_le0, bn_0le, bn_lt0, bn_0lt, bn_eq0, bn_0eq, bn_eqm, bn_mlt0, bn_0lem, bn_m0, bn_mle0, bn_ltm, bn_mlt, bn_mle, bn_lem, nI_add, pk_mul, pk_sub, nI_clamp, B_n_nI, bn_0, bc_0, bc_m1, bc_1, bc_2, bc_3, bc_4, bc_5, bc_6, bc_7, bc_8, bc_9, bc_10, bc_11, bc_12, bc_13, bc_16, bc_22, bc_24, bc_32, bc_40, bc_41, bc_42, bc_43, bc_44, bc_45, bc_47, bc_48, bc_52, bc_57, bc_58, bc_59, bc_60, bc_61, bc_62, bc_63, bc_64, bc_76, bc_80, bc_97, bc_99, bc_105, bc_106, bc_107, bc_108, bc_109, bc_110, bc_111, bc_112, bc_113, bc_114, bc_115, bc_116, bc_117, bc_118, bc_119, bc_120, bc_121, bc_122, bc_255, bc_256, bc_400, bc_572, bc_999, bc_1024, bc_10000, bc_m2, bc_m3, bc_m8, bc_m100, bc_m200, if_pos]
          | some b =>
            have hb := hj b rfl
            have M2 : R_m (px_w (B_t0 h1) 51 13 0) P T K Y S := by
              unfold R_m R_k R_a at *
              simpa (disch := omega) only [B_w_same, B_w_cell, B_w_at, if_neg] using M1
            have a4b := M1.2.2.2.1 b hb
            obtain ⟨hA, x1, x2, x3⟩ := mo_tell_s (S_price S b) (B_rm_nil (B_t0 h1)) (by decide)
            have e12 : hA 52 (12 + b) = S 4 b := by rw [x3 52 _ rfl, B_w_cell _ _ _ (by decide), a4b]
            simp (disch := omega) only [mo_bargain_37, M1.1.2.1, em, bn_0le, if_true, mo_priceOf_s hb M2 W, x1, e12, bn_le, bn_lt, bn_eq, bn_le0, bn_0le, bn_lt0, bn_0lt, bn_eq0, bn_0eq, bn_eqm, bn_mlt0, bn_0lem, bn_m0, bn_mle0, bn_ltm, bn_mlt, bn_mle, bn_lem, nI_add, pk_mul, pk_sub, nI_clamp, B_n_nI, bn_0, bc_0, bc_m1, bc_1, bc_2, bc_3, bc_4, bc_5, bc_6, bc_7, bc_8, bc_9, bc_10, bc_11, bc_12, bc_13, bc_16, bc_22, bc_24, bc_32, bc_40, bc_41, bc_42, bc_43, bc_44, bc_45, bc_47, bc_48, bc_52, bc_57, bc_58, bc_59, bc_60, bc_61, bc_62, bc_63, bc_64, bc_76, bc_80, bc_97, bc_99, bc_105, bc_106, bc_107, bc_108, bc_109, bc_110, bc_111, bc_112, bc_113, bc_114, bc_115, bc_116, bc_117, bc_118, bc_119, bc_120, bc_121, bc_122, bc_255, bc_256, bc_400, bc_572, bc_999, bc_1024, bc_10000, bc_m2, bc_m3, bc_m8, bc_m100, bc_m200, B_bind, B_ift, if_pos, po_52, pz_52, po_53, pz_53, po_54, pz_54, po_55, pz_55, po_56, pz_56, po_57, pz_57, po_58, pz_58, po_59, pz_59, po_60, pz_60, po_61, pz_61, po_62, pz_62, po_63, pz_63, po_64, pz_64, po_65, pz_65, po_66, pz_66, po_67, pz_67, po_68, pz_68, po_69, pz_69, po_70, pz_70, po_71, pz_71, po_72, pz_72, po_73, pz_73, po_74, pz_74, po_75, pz_75, po_76, pz_76, po_77, pz_77, po_78, pz_78, po_79, pz_79, po_80, pz_80, po_81, pz_81]) T 0 px_F none (by omega) (px_F_lt (by omega)) (fun b hb => by cases hb)
        rw [nI_0] at e
        exact e
      rw [nI_0] at eC
      rw [if_pos q, if_pos q2] at hcl
      have hmo' : ∀ h1, R_m (B_t0 h1) P T K Y S → mo_bargain (nI p) (nI o) h1 = mo_bargain_37 px_F (nI p) (nI o) (-2) 0 (B_t0 h1) := fun h1 M1 => by rw [hmo h1 M1, if_pos q, if_pos q2]
      cases hst : B_fold g 0 T none with
      | none =>
        rw [hst] at eC
        refine ⟨-2, h, B_t0 h, ?_, ?_, B_qr I r⟩
        · rw [hcl]
          exact eC
        · rw [hmo' h M, eM h M, hst]
      | some b =>
        have hb := hJF b hst
        rw [hst] at eC
        refine B_ask2 (x := S_price S b) (y := S 4 b) (v := nI b) I ?_ (fun h1 M1 => ?_)
        · rw [hcl]
          refine Eq.trans eC ?_
          show (if nI b = -1 then _ else _) = _
          rw [if_neg (fun w => by rw [bn_eqm (by omega)] at w; exact w)]
        · rw [hmo' h1 M1, eM h1 M1, hst]
    · refine ⟨-1, h, B_t0 h, ?_, ?_, B_qr I r⟩
      · rw [hcl, if_pos q, if_neg q2]
      · rw [hmo h M, if_pos q, if_neg q2]
  · refine ⟨-1, h, B_t0 h, ?_, ?_, B_qr I r⟩
    · rw [hcl, if_neg q]
    · rw [hmo h M, if_neg q]
/-- what is pressed by a sheet -/
def S_sh (kind n f st : Int32) (t : Nat) : Int32 := if kind = nI 3 then 0 else if nI t < n then px_max 0 (px_min (nI 9) (if kind = 0 then px_i2b (f + nI t * st) else if kind = nI 1 then px_i2s (f + nI t * st) else f + nI t * st)) else 0
def S_pr (S : pH) (F : Nat → Int32) (k : Nat) : pH := fun a j => if a = 5 ∧ j < k then F j else S a j
theorem S_pr_w (F : Nat → Int32) (k : Nat) : px_w (S_pr S F k) 5 k (F k) = S_pr S F (k + 1) := by
  funext a j
  unfold px_w S_pr
  by_cases q : a = 5 ∧ j = k
  · rw [if_pos q, if_pos ⟨q.1, by omega⟩, q.2]
  · rw [if_neg q]
    by_cases w : a = 5 ∧ j < k
    · rw [if_pos w, if_pos ⟨w.1, by omega⟩]
    · rw [if_neg w, if_neg (fun w2 => ?_)]
      by_cases e : j = k
      · exact q ⟨w2.1, e⟩
      · exact w ⟨w2.1, by omega⟩
theorem B_sheet (hI : Inv i h) (v0 v1 v2 v3 : Int32) : ∃ r h1 h2, wu_sheet v0 v1 v2 v3 h = some (r, h1) ∧ mo_sheet v0 v1 v2 v3 h1 = some (r, h2) ∧ Inv (i + 5) h2 := by
  refine B_call hI (fun P T K Y n S ev I r R M W => ?_)
  have h10 := W.2.1
  have t0 : (0 : Int32).toInt = 0 := rfl
  have t3 : (nI 3).toInt = 3 := rfl
  have e15 : ∀ hh, wu_sheet_15 hh = some (-1, hh) := fun hh => by unfold wu_sheet_15; rw [bc_m1]
  have e20 : ∀ hh, mo_sheet_20 hh = some (-1, hh) := fun hh => by unfold mo_sheet_20; rw [bc_m1]
  have hmo : ∀ h1, mo_sheet v0 v1 v2 v3 h1 = if decide (0 ≤ v0.toInt ∧ v0.toInt ≤ 3) = true then (if v1 ≤ nI 10 then (if nI 3 ≤ v0 then mo_sheet_43 px_F v0 v1 v3 0 v2 0 (B_t0 h1) else if 0 ≤ v1 then mo_sheet_43 px_F v0 v1 v3 0 v2 0 (B_t0 h1) else some (-2, B_t0 h1)) else some (-1, B_t0 h1)) else some (-1, B_t0 h1) := fun h1 => by
    unfold mo_sheet mo_sheet_34
    rw [bc_0]
    show px_bind (mo_in v0 0 (px_c 3) (B_t0 h1)) _ = _
    rw [mo_in_eq, bc_3, t0, t3, B_bind, bc_10, bc_m2]
    cases q : decide (0 ≤ v0.toInt ∧ v0.toInt ≤ 3) with
    | false => rw [if_pos (show B_01 false = 0 from rfl), e20, if_neg (by decide)]
    | true =>
      rw [if_neg (by decide), if_pos rfl]
      split
      · rfl
      · rw [e20]
  have hcl : wu_sheet v0 v1 v2 v3 h = if decide (0 ≤ v0.toInt ∧ v0.toInt ≤ 3) = true then (if v1 ≤ nI 10 then (if nI 3 ≤ v0 then wu_sheet_47 px_F v0 v1 v2 v3 (nI 1) 0 0 h else if 0 ≤ v1 then wu_sheet_47 px_F v0 v1 v2 v3 0 0 0 h else some (-2, h)) else some (-1, h)) else some (-1, h) := by
    unfold wu_sheet wu_sheet_27 wu_sheet_41
    rw [bc_3, bc_10, bc_0, bc_1, bc_m2, e15]
    have y0 : v0 < 0 ↔ v0.toInt < 0 := lt0_toInt
    have y3 : nI 3 < v0 ↔ 3 < v0.toInt := by rw [Int32.lt_iff_toInt_lt, t3]
    have c10 : (nI 1 = 0) = False := by decide
    by_cases q : 0 ≤ v0.toInt ∧ v0.toInt ≤ 3
    · have z0 : ¬ v0 < 0 := fun w => by have := y0.mp w; omega
      have z1 : ¬ nI 3 < v0 := fun w => by have := y3.mp w; omega
      simp only [decide_eq_true q, if_true, if_neg z0, if_neg z1]
      by_cases q2 : v1 ≤ nI 10
      · simp only [if_pos q2]
        by_cases q3 : v0 = nI 3
        · have z4 : nI 3 ≤ v0 := by rw [q3]; exact Int32.le_refl _
          simp only [if_pos q3, if_pos z4, c10, if_false]
        · have z4 : ¬ nI 3 ≤ v0 := fun w => q3 (Int32.toInt_inj.mp (by rw [Int32.le_iff_toInt_le, t3] at w; rw [t3]; omega))
          simp only [if_neg q3, if_neg z4, if_true]
      · simp only [if_neg q2]
    · rw [decide_eq_false q]
      by_cases q2 : v0 < 0
      · simp only [if_pos q2, Bool.false_eq_true, if_false, if_true]
      · have z1 : nI 3 < v0 := y3.mpr (by rw [y0] at q2; omega)
        simp only [if_neg q2, if_pos z1, Bool.false_eq_true, if_false]
  by_cases q : 0 ≤ v0.toInt ∧ v0.toInt ≤ 3
  · by_cases q2 : v1 ≤ nI 10
    · have main : (nI 3 ≤ v0 ∨ 0 ≤ v1) → ∃ r h1 h2, wu_sheet v0 v1 v2 v3 h = some (r, h1) ∧ mo_sheet v0 v1 v2 v3 h1 = some (r, h2) ∧ Inv (i + 5) h2 := by
        intro q3
        let F : Nat → Int32 := S_sh v0 v1 v2 v3
        let gc : Nat → Int32 × pH → Int32 × pH := fun k b => (b.1 + F k, px_w b.2 9 k (F k))
        have eC := B_loopI (fun n (b : Int32 × pH) k => wu_sheet_47 n v0 v1 v2 v3 (if nI 3 ≤ v0 then nI 1 else 0) b.1 (nI k) b.2) T gc (fun b => some (if nI 3 ≤ v0 then -3 else b.1, b.2)) (fun _ b => b.2 3 11 = nI T) (fun n b k hk hb => ⟨by
          simp (disch := omega) only [wu_sheet_47, wu_sheet_85, wu_sheet_70, wu_pressOf, wu_pressOf_20, hb, bn_le, bn_lt, bn_eq, bn_le0, bn_0le, bn_lt0, bn_0lt, bn_eq0, bn_0eq, bn_eqm, bn_mlt0, bn_0lem, bn_m0, bn_mle0, bn_ltm, bn_mlt, bn_mle, bn_lem, nI_add, pk_mul, pk_sub, nI_clamp, B_n_nI, bn_0, bc_0, bc_m1, bc_1, bc_2, bc_3, bc_4, bc_5, bc_6, bc_7, bc_8, bc_9, bc_10, bc_11, bc_12, bc_13, bc_16, bc_22, bc_24, bc_32, bc_40, bc_41, bc_42, bc_43, bc_44, bc_45, bc_47, bc_48, bc_52, bc_57, bc_58, bc_59, bc_60, bc_61, bc_62, bc_63, bc_64, bc_76, bc_80, bc_97, bc_99, bc_105, bc_106, bc_107, bc_108, bc_109, bc_110, bc_111, bc_112, bc_113, bc_114, bc_115, bc_116, bc_117, bc_118, bc_119, bc_120, bc_121, bc_122, bc_255, bc_256, bc_400, bc_572, bc_999, bc_1024, bc_10000, bc_m2, bc_m3, bc_m8, bc_m100, bc_m200, B_bind, if_neg, wp_4, wq_4, wp_5, wq_5, wp_6, wq_6, wp_7, wq_7, wp_8, wq_8, wp_9, wq_9, wp_10, wq_10, wp_11, wq_11, wp_12, wq_12, wp_13, wq_13, wp_15, wq_15, wp_16, wq_16, wp_18, wq_18, wp_19, wq_19, wp_20, wq_20, wp_23, wq_23, wp_24, wq_24, wp_26, wq_26, wp_27, wq_27, wp_28, wq_28, wp_29, wq_29, wp_30, wq_30, wp_31, wq_31, wp_32, wq_32, wp_34, wq_34, wp_35, wq_35, wp_36, wq_36, wp_37, wq_37, wp_38, wq_38, wp_39, wq_39, wp_40, wq_40, wp_42, wq_42, wp_44, wq_44, wp_46, wq_46, wp_48, wq_48, wp_49, wq_49, wp_50, wq_50, gc, F]
          unfold S_sh
          by_cases z3 : v0 = nI 3
          · have z4 : nI 3 ≤ v0 := by rw [z3, Int32.le_iff_toInt_le]; omega
            simp only [z3, Int32.le_refl, if_true, bn_10, if_false]
          · have z4 : ¬ nI 3 ≤ v0 := fun w => z3 (Int32.toInt_inj.mp (by rw [Int32.le_iff_toInt_le, t3] at w; rw [t3]; omega))
            simp only [z4, z3, if_false, if_true]
            by_cases z5 : nI k < v1
            · simp only [z5, if_true]
              by_cases z6 : v0 = 0
              · simp only [z6, if_true, B_bind]
              · by_cases z7 : v0 = nI 1
                · simp only [z7, bn_10, if_true, if_false, B_bind]
                · simp only [z6, z7, if_false, B_bind]
            · simp only [z5, if_false], by
          dsimp only [gc]
          rw [B_w_cell _ _ _ (by decide)]
          exact hb⟩) (fun n b hb => by
          simp (disch := omega) only [wu_sheet_47, wu_sheet_126, hb, bn_le, bn_lt, bn_eq, bn_le0, bn_0le, bn_lt0, bn_0lt, bn_eq0, bn_0eq, bn_eqm, bn_mlt0, bn_0lem, bn_m0, bn_mle0, bn_ltm, bn_mlt, bn_mle, bn_lem, nI_add, pk_mul, pk_sub, nI_clamp, B_n_nI, bn_0, bc_0, bc_m1, bc_1, bc_2, bc_3, bc_4, bc_5, bc_6, bc_7, bc_8, bc_9, bc_10, bc_11, bc_12, bc_13, bc_16, bc_22, bc_24, bc_32, bc_40, bc_41, bc_42, bc_43, bc_44, bc_45, bc_47, bc_48, bc_52, bc_57, bc_58, bc_59, bc_60, bc_61, bc_62, bc_63, bc_64, bc_76, bc_80, bc_97, bc_99, bc_105, bc_106, bc_107, bc_108, bc_109, bc_110, bc_111, bc_112, bc_113, bc_114, bc_115, bc_116, bc_117, bc_118, bc_119, bc_120, bc_121, bc_122, bc_255, bc_256, bc_400, bc_572, bc_999, bc_1024, bc_10000, bc_m2, bc_m3, bc_m8, bc_m100, bc_m200, if_pos]
          by_cases z4 : nI 3 ≤ v0
          · simp only [z4, if_true, bn_10, if_false]
          · simp only [z4, if_false, if_true]) T 0 px_F (0, h) (by omega) (px_F_lt (by omega)) R.2.1
        have hIC := B_fold_inv (g := gc) (fun k b => R_c b.2 P T K Y (S_pr S F k) ∧ B_fr (E_a 9) h b.2) T 0 (0, h) ⟨by
          have : S_pr S F 0 = S := by
            funext a j
            unfold S_pr
            rw [if_neg (by omega)]
          rw [this]
          exact R, B_fr.refl _ _⟩ (fun j b _ _ ⟨x1, x2⟩ => ⟨by
          rw [← S_pr_w]
          exact x1.w9 j (F j), x2.w rfl⟩)
        generalize hX : B_fold gc 0 T (0, h) = X at *
        obtain ⟨hR, hF⟩ := hIC
        have F1 : ∀ a, a ≠ 9 → X.2 a = h a := fun a ha => hF.row a (fun k => beq_ne ha)
        let gm : Nat → Int32 × Int32 × pH → Int32 × Int32 × pH := fun k b => (b.1 + F k, b.2.1 + v3, px_w b.2.2 56 k (F k))
        have eM := B_loopI (fun n (b : Int32 × Int32 × pH) k => mo_sheet_43 n v0 v1 v3 b.1 b.2.1 (nI k) b.2.2) T gm (fun b => some (if nI 3 ≤ v0 then -3 else b.1, b.2.2)) (fun k b => b.2.2 51 6 = nI T ∧ b.2.1 = v2 + nI k * v3) (fun n b k hk ⟨hb, hb2⟩ => ⟨by
          simp (disch := omega) only [mo_sheet_43, mo_sheet_75, mo_sheet_94, mo_sheet_109, hb, hb2, bn_le, bn_lt, bn_eq, bn_le0, bn_0le, bn_lt0, bn_0lt, bn_eq0, bn_0eq, bn_eqm, bn_mlt0, bn_0lem, bn_m0, bn_mle0, bn_ltm, bn_mlt, bn_mle, bn_lem, nI_add, pk_mul, pk_sub, nI_clamp, B_n_nI, bn_0, bc_0, bc_m1, bc_1, bc_2, bc_3, bc_4, bc_5, bc_6, bc_7, bc_8, bc_9, bc_10, bc_11, bc_12, bc_13, bc_16, bc_22, bc_24, bc_32, bc_40, bc_41, bc_42, bc_43, bc_44, bc_45, bc_47, bc_48, bc_52, bc_57, bc_58, bc_59, bc_60, bc_61, bc_62, bc_63, bc_64, bc_76, bc_80, bc_97, bc_99, bc_105, bc_106, bc_107, bc_108, bc_109, bc_110, bc_111, bc_112, bc_113, bc_114, bc_115, bc_116, bc_117, bc_118, bc_119, bc_120, bc_121, bc_122, bc_255, bc_256, bc_400, bc_572, bc_999, bc_1024, bc_10000, bc_m2, bc_m3, bc_m8, bc_m100, bc_m200, B_ift, if_neg, po_52, pz_52, po_53, pz_53, po_54, pz_54, po_55, pz_55, po_56, pz_56, po_57, pz_57, po_58, pz_58, po_59, pz_59, po_60, pz_60, po_61, pz_61, po_62, pz_62, po_63, pz_63, po_64, pz_64, po_65, pz_65, po_66, pz_66, po_67, pz_67, po_68, pz_68, po_69, pz_69, po_70, pz_70, po_71, pz_71, po_72, pz_72, po_73, pz_73, po_74, pz_74, po_75, pz_75, po_76, pz_76, po_77, pz_77, po_78, pz_78, po_79, pz_79, po_80, pz_80, po_81, pz_81, gm, F, B_w_same, B_w_cell, B_w_at]
          unfold S_sh
          by_cases z3 : v0 = nI 3
          · have b30 : (nI 3 = 0) = False := by decide
            have b31 : (nI 3 = nI 1) = False := by decide
            simp only [z3, if_true, b30, b31, if_false]
          · simp only [z3, if_false]
            by_cases z5 : nI k < v1
            · simp only [z5, if_true]
              by_cases z6 : v0 = 0
              · simp only [z6, if_true]
              · by_cases z7 : v0 = nI 1
                · simp only [z7, bn_10, if_true, if_false]
                · simp only [z6, z7, if_false]
            · simp only [z5, if_false]
              by_cases z6 : v0 = 0
              · simp only [z6, if_true]
              · by_cases z7 : v0 = nI 1
                · simp only [z7, bn_10, if_true, if_false]
                · simp only [z6, z7, if_false], by
          dsimp only [gm]
          refine ⟨by rw [B_w_cell _ _ _ (by decide)]; exact hb, ?_⟩
          rw [hb2, ← nI_1, Int32.add_mul, Int32.one_mul, Int32.add_assoc]⟩) (fun n b ⟨hb, _⟩ => by
          simp (disch := omega) only [mo_sheet_43, mo_sheet_147, hb, bn_le, bn_lt, bn_eq, bn_le0, bn_0le, bn_lt0, bn_0lt, bn_eq0, bn_0eq, bn_eqm, bn_mlt0, bn_0lem, bn_m0, bn_mle0, bn_ltm, bn_mlt, bn_mle, bn_lem, nI_add, pk_mul, pk_sub, nI_clamp, B_n_nI, bn_0, bc_0, bc_m1, bc_1, bc_2, bc_3, bc_4, bc_5, bc_6, bc_7, bc_8, bc_9, bc_10, bc_11, bc_12, bc_13, bc_16, bc_22, bc_24, bc_32, bc_40, bc_41, bc_42, bc_43, bc_44, bc_45, bc_47, bc_48, bc_52, bc_57, bc_58, bc_59, bc_60, bc_61, bc_62, bc_63, bc_64, bc_76, bc_80, bc_97, bc_99, bc_105, bc_106, bc_107, bc_108, bc_109, bc_110, bc_111, bc_112, bc_113, bc_114, bc_115, bc_116, bc_117, bc_118, bc_119, bc_120, bc_121, bc_122, bc_255, bc_256, bc_400, bc_572, bc_999, bc_1024, bc_10000, bc_m2, bc_m3, bc_m8, bc_m100, bc_m200, if_pos]
          by_cases z4 : nI 3 ≤ v0
          · have z3 : v0 = nI 3 := Int32.toInt_inj.mp (by rw [Int32.le_iff_toInt_le, t3] at z4; rw [t3]; omega)
            simp only [z4, z3, if_true, Int32.le_refl]
          · have z3 : ¬ v0 = nI 3 := fun e => z4 (by rw [e]; exact Int32.le_refl _)
            simp only [z4, z3, if_false]) T 0 px_F (0, v2, B_t0 X.2) (by omega) (px_F_lt (by omega)) ⟨by show (B_t0 X.2) 51 6 = _; rw [B_t0_at _ (by decide), F1 51 (by decide)]; exact I.2.1.1.2.1, by show v2 = v2 + nI 0 * v3; rw [nI_0, Int32.zero_mul, Int32.add_zero]⟩
        have hIM := B_fold_inv (g := gm) (fun k b => b.1 = (B_fold gc 0 k (0, h)).1 ∧ R_k b.2.2 P T K Y (S_pr S F k) ∧ B_fr (E_a 56) (B_t0 X.2) b.2.2) T 0 (0, v2, B_t0 X.2) ⟨rfl, by
          have : S_pr S F 0 = S := by
            funext a j
            unfold S_pr
            rw [if_neg (by omega)]
          rw [this]
          exact I.2.1.1.cs (fun k hk => by show B_t0 X.2 51 k = _; rw [B_t0_at _ (by omega), F1 51 (by decide)]) (fun a y1 y2 => by show B_t0 X.2 a = _; rw [B_t0_row _ (by omega), F1 a (by omega)]), B_fr.refl _ _⟩ (fun j b _ _ ⟨x0, x1, x2⟩ => ⟨by
          have e8 := B_fold_add gc j 1 0 ((0, h) : Int32 × pH)
          rw [e8]
          show b.1 + F j = (B_fold gc 0 j (0, h)).1 + F (0 + j)
          rw [x0, Nat.zero_add], by
          rw [← S_pr_w]
          exact x1.w56 j (F j), x2.w rfl⟩)
        rw [Nat.zero_add] at hR hIM
        obtain ⟨hs, hK, hG⟩ := hIM
        rw [hX] at hs
        generalize hXM : B_fold gm 0 T (0, v2, B_t0 X.2) = XM at *
        have G1 : ∀ a, a ≠ 56 → XM.2.2 a = (B_t0 X.2) a := fun a ha => hG.row a (fun k => beq_ne ha)
        refine ⟨if nI 3 ≤ v0 then -3 else X.1, X.2, XM.2.2, ?_, ?_, ?_⟩
        · rw [hcl, decide_eq_true q, if_pos rfl, if_pos q2]
          by_cases z4 : nI 3 ≤ v0
          · simp only [z4, if_true] at eC ⊢
            rw [nI_0] at eC
            exact eC
          · rcases q3 with q3 | q3
            · exact absurd q3 z4
            · simp only [z4, q3, if_false, if_true] at eC ⊢
              rw [nI_0] at eC
              exact eC
        · rw [hmo, decide_eq_true q, if_pos rfl, if_pos q2, ← hs]
          rw [nI_0] at eM
          by_cases z4 : nI 3 ≤ v0
          · simp only [z4, if_true] at eM ⊢
            exact eM
          · rcases q3 with q3 | q3
            · exact absurd q3 z4
            · simp only [z4, q3, if_false, if_true] at eM ⊢
              exact eM
        · refine I_h.hp (Z := S_pr S F T) I r ?_ hK ?_ (fun i k _ h5 => by unfold S_pr; rw [if_neg (fun w => h5 w.1)]) (fun a g4 g9 g51 g54 g56 => by rw [G1 a g56, B_t0_row _ g51, F1 a g9]) (fun k hk => by rw [G1 51 (by decide), B_t0_at _ hk, F1 51 (by decide)])
          · exact hR.cs (fun a y1 y2 => by rw [G1 a (by omega), B_t0_row _ (by omega)])
          · obtain ⟨h6, h10, h5, hY2, hY60, w0, w1, w2, w4, w6, w7, w8, w9, w10, w11⟩ := W
            exact ⟨h6, h10, h5, hY2, hY60, w0, w1, w2, w4, w6, w7, w8, w9, w10, w11⟩
      by_cases z4 : nI 3 ≤ v0
      · exact main (Or.inl z4)
      · by_cases z5 : 0 ≤ v1
        · exact main (Or.inr z5)
        · refine ⟨-2, h, B_t0 h, ?_, ?_, B_qr I r⟩
          · rw [hcl, decide_eq_true q, if_pos rfl, if_pos q2, if_neg z4, if_neg z5]
          · rw [hmo, decide_eq_true q, if_pos rfl, if_pos q2, if_neg z4, if_neg z5]
    · refine ⟨-1, h, B_t0 h, ?_, ?_, B_qr I r⟩
      · rw [hcl, decide_eq_true q, if_pos rfl, if_neg q2]
      · rw [hmo, decide_eq_true q, if_pos rfl, if_neg q2]
  · refine ⟨-1, h, B_t0 h, ?_, ?_, B_qr I r⟩
    · rw [hcl, decide_eq_false q, if_neg (by decide)]
    · rw [hmo, decide_eq_false q, if_neg (by decide)]
end BARGAIN
