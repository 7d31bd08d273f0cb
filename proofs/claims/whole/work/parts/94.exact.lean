/-! Layer B: exact, spared, bargain -/
section EXACT
variable {i : Nat} {h : pH} {P T K Y n : Nat} {S : pH} {ev : pE}
theorem B_small {x : Int32} {m : Nat} (hm : m ≤ 31) (hb : ∀ k, m ≤ k → k < 32 → B_bit x k = false) : ∃ o, o < 2 ^ m ∧ x = nI o := by
  refine ⟨x.toBitVec.toNat, ?_, ?_⟩
  · refine Nat.lt_pow_two_of_testBit _ (fun k hk => ?_)
    have e : x.toBitVec.toNat.testBit k = B_bit x k := by
      rw [B_bit_lsb]
      rfl
    rw [e]
    by_cases q : k < 32
    · exact hb k hk q
    · exact B_bit_big x (by omega)
  · apply Int32.toBitVec_inj.mp
    apply BitVec.eq_of_toNat_eq
    rw [pk_tn x.toBitVec.isLt]
theorem B_sub {k o : Nat} (hk : k < 1024) (ho : o < 1024) (q : nI k &&& (nI o ^^^ -1) = 0) : k ≤ o := by
  have e : nI k &&& nI o = nI k := by
    refine B_ext (fun j hj => ?_)
    have := (B_eq0 _).mp q j hj
    rw [B_bit_and, B_bit_not _ hj] at this
    rw [B_bit_and]
    cases h1 : B_bit (nI k) j with
    | false => rfl
    | true =>
      rw [h1] at this
      simpa using this
  have e2 : (nI k &&& nI o).toBitVec.toNat = k &&& o := by
    rw [Int32.toBitVec_and, BitVec.toNat_and, pk_tn (by omega), pk_tn (by omega)]
  rw [e, pk_tn (by omega)] at e2
  rw [e2]
  exact Nat.and_le_right
theorem S_left_0 : S_left S T 0 = 0 := by
  unfold S_left
  refine B_fold_id T 0 0 (fun j _ _ b => ?_)
  rw [B_bit_0]
  simp
noncomputable def S_eg (S : pH) (T : Nat) (own v : Int32) : Nat → Int32 × Int32 × Int32 → Int32 × Int32 × Int32 := fun k b => if nI k &&& (own ^^^ -1) = 0 then (if S_left S T (nI k) = v then (if b.1 = -1 then nI k else if B_pc b.1 ≤ B_pc (nI k) then b.1 else nI k, if b.2.1 = -1 then nI k else if B_pc (nI k) ≤ B_pc b.2.1 then b.2.1 else nI k, b.2.2 + nI 1) else b) else b
theorem B_exact (hI : Inv i h) (v0 v1 : Int32) : ∃ r h1 h2, wu_exact v0 v1 h = some (r, h1) ∧ mo_exact v0 v1 h1 = some (r, h2) ∧ Inv (i + 5) h2 := by
  refine B_call hI (fun P T K Y n S ev I r R M W => ?_)
  have h6 := W.1
  have h10 := W.2.1
  have t1 : (nI 1).toInt = 1 := rfl
  have t400 : (nI 400).toInt = 400 := rfl
  have hmo : ∀ h1, mo_exact v0 v1 h1 = px_bind (mo_isPerson v0 (B_t0 h1)) fun z2 h3 => if z2 = 0 then mo_exact_24 h3 else px_bind (mo_in v1 (px_c 1) (px_c 400) h3) fun z4 h5 => if z4 = 0 then mo_exact_24 h5 else px_bind (mo_unsaid 52 v0 h5) fun z6 h7 => mo_exact_48 px_F v1 z6 0 (-1) (-1) 0 h7 := fun h1 => by
    unfold mo_exact B_t0
    rw [bc_0, bc_m1]
  have e24 : ∀ hh, mo_exact_24 hh = some (-1, hh) := fun hh => by unfold mo_exact_24; rw [bc_m1]
  have e23 : ∀ hh, wu_exact_23 hh = some (-1, hh) := fun hh => by unfold wu_exact_23; rw [bc_m1]
  cases hx : B_is v0 P with
  | false =>
    refine ⟨-1, h, B_t0 h, ?_, ?_, B_qr I r⟩
    · unfold wu_exact
      rw [hs_hasPerson_eq _ R.1 h6, hx, B_bind, if_pos (show B_01 false = 0 from rfl), e23]
    · rw [hmo, mo_isPerson_eq _ M.1.1 h6, hx, B_bind, if_pos (show B_01 false = 0 from rfl), e24]
  | true =>
    obtain ⟨p, hp, rfl⟩ := B_is_ex hx (by omega)
    by_cases hv : 1 ≤ v1.toInt ∧ v1.toInt ≤ 400
    · have hq1 : ¬ v1 < px_c 1 := by
        rw [bc_1, Int32.lt_iff_toInt_lt, t1]
        omega
      have hq2 : v1 ≤ px_c 400 := by
        rw [bc_400, Int32.le_iff_toInt_le, t400]
        omega
      have hv0 : ¬ (0 : Int32) = v1 := fun e => by
        rw [← e] at hv
        exact absurd hv.1 (by decide)
      obtain ⟨o, ho, eo⟩ : ∃ o, o < 2 ^ 10 ∧ S_uns S T (nI 1 <<< (nI p &&& 31)) = nI o := by
        refine B_small (by omega) (fun k h1 h2 => ?_)
        unfold S_uns
        rw [B_set_bit (by omega) h2, decide_eq_false (by omega)]
        rfl
      have ho' : o < 1024 := ho
      have hbits : ∀ k, k < 32 → B_bit (nI o) k = true → k < T := fun k hk q => by
        rw [← eo] at q
        unfold S_uns at q
        rw [B_set_bit (by omega) hk, Bool.and_eq_true, decide_eq_true_eq] at q
        exact q.1
      -- both folds are the same
      have ef : B_fold (S_eg S T (nI o) v1) 1 1023 (-1, -1, 0) = B_fold (S_eg S T (nI o) v1) 0 (o + 1) (-1, -1, 0) := by
        have h0 : S_eg S T (nI o) v1 0 (-1, -1, 0) = (-1, -1, 0) := by
          unfold S_eg
          rw [nI_0, S_left_0, if_neg hv0]
          split <;> rfl
        show _ = B_fold (S_eg S T (nI o) v1) 1 o (S_eg S T (nI o) v1 0 (-1, -1, 0))
        rw [h0]
        have e8 := B_fold_add (S_eg S T (nI o) v1) o (1023 - o) 1 ((-1, -1, 0) : Int32 × Int32 × Int32)
        rw [show o + (1023 - o) = 1023 by omega] at e8
        rw [e8]
        refine B_fold_id _ _ _ (fun j h1 h2 b => ?_)
        unfold S_eg
        rw [if_neg (fun q => by have := B_sub (by omega) ho' q; omega)]
      generalize hF : B_fold (S_eg S T (nI o) v1) 0 (o + 1) (-1, -1, 0) = b9 at ef
      refine B_ask2 (x := b9.1) (y := b9.2.1) (v := b9.2.2) I ?_ (fun h1 M1 => ?_)
      · unfold wu_exact
        rw [hs_hasPerson_eq _ R.1 h6, hx, B_bind, if_neg (by decide), if_neg hq1, if_pos hq2, bc_1, hs_unsaidOf_s _ R W, B_bind, eo, bc_m1, bc_0]
        have eL := B_loop (fun n (b : Int32 × Int32 × Int32) k => wu_exact_48 n v1 (nI o) b.1 b.2.1 b.2.2 (nI k) h) 1024 (S_eg S T (nI o) v1) (fun b => px_bind (tl_tell_ b.1 b.2.1 h) fun _ h2 => some (b.2.2, h2)) (fun n b k hk => by
          simp (disch := omega) only [wu_exact_48, wu_exact_138, wu_exact_136, wu_exact_129, wu_exact_111, wu_exact_104, hs_wordsLeft_s _ R W, jn_bitCount_eq, bn_le, bn_lt, bn_eq, bn_le0, bn_0le, bn_lt0, bn_0lt, bn_eq0, bn_0eq, bn_eqm, bn_mlt0, bn_0lem, bn_m0, bn_mle0, bn_ltm, bn_mlt, bn_mle, bn_lem, nI_add, pk_mul, pk_sub, nI_clamp, B_n_nI, bn_0, bc_0, bc_m1, bc_1, bc_2, bc_3, bc_4, bc_5, bc_6, bc_7, bc_8, bc_9, bc_10, bc_11, bc_12, bc_13, bc_16, bc_22, bc_24, bc_32, bc_40, bc_41, bc_42, bc_43, bc_44, bc_45, bc_47, bc_48, bc_52, bc_57, bc_58, bc_59, bc_60, bc_61, bc_62, bc_63, bc_64, bc_76, bc_80, bc_97, bc_99, bc_105, bc_106, bc_107, bc_108, bc_109, bc_110, bc_111, bc_112, bc_113, bc_114, bc_115, bc_116, bc_117, bc_118, bc_119, bc_120, bc_121, bc_122, bc_255, bc_256, bc_400, bc_572, bc_999, bc_1024, bc_10000, bc_m2, bc_m3, bc_m8, bc_m100, bc_m200, B_bind, if_neg, S_eg]
          generalize nI k &&& (nI o ^^^ -1) = w
          by_cases q1 : w = 0
          · by_cases q2 : S_left S T (nI k) = v1
            · by_cases q3 : b.1 = -1 <;> by_cases q4 : b.2.1 = -1 <;> by_cases q5 : B_pc b.1 ≤ B_pc (nI k) <;> by_cases q6 : B_pc (nI k) ≤ B_pc b.2.1 <;> simp [q1, q2, q3, q4, q5, q6]
            · simp [q1, q2]
          · simp [q1]) (fun n b => by
          simp (disch := omega) only [wu_exact_48, bn_le, bn_lt, bn_eq, bn_le0, bn_0le, bn_lt0, bn_0lt, bn_eq0, bn_0eq, bn_eqm, bn_mlt0, bn_0lem, bn_m0, bn_mle0, bn_ltm, bn_mlt, bn_mle, bn_lem, nI_add, pk_mul, pk_sub, nI_clamp, B_n_nI, bn_0, bc_0, bc_m1, bc_1, bc_2, bc_3, bc_4, bc_5, bc_6, bc_7, bc_8, bc_9, bc_10, bc_11, bc_12, bc_13, bc_16, bc_22, bc_24, bc_32, bc_40, bc_41, bc_42, bc_43, bc_44, bc_45, bc_47, bc_48, bc_52, bc_57, bc_58, bc_59, bc_60, bc_61, bc_62, bc_63, bc_64, bc_76, bc_80, bc_97, bc_99, bc_105, bc_106, bc_107, bc_108, bc_109, bc_110, bc_111, bc_112, bc_113, bc_114, bc_115, bc_116, bc_117, bc_118, bc_119, bc_120, bc_121, bc_122, bc_255, bc_256, bc_400, bc_572, bc_999, bc_1024, bc_10000, bc_m2, bc_m3, bc_m8, bc_m100, bc_m200, if_pos]) 1023 1 px_F (-1, -1, 0) (by omega) (px_F_lt (by omega))
        rw [eL, ef]
      · rw [hmo, mo_isPerson_eq _ M1.1.1 h6, hx, B_bind, if_neg (by decide), mo_in_eq, bc_1, bc_400, t1, t400, decide_eq_true hv, B_bind, if_neg (by decide), mo_unsaid_s (a := 52) (by omega) rfl rfl M1.1 M1.2 W, B_bind, eo]
        have eL := B_loop0 (fun n (b : Int32 × Int32 × Int32) k => mo_exact_48 n v1 (nI o) b.2.2 b.1 b.2.1 (nI k) (B_t0 h1)) (o + 1) (S_eg S T (nI o) v1) (fun b => px_bind (mo_tell b.1 (px_w (B_t0 h1) 51 13 0)) fun _ h3 => px_bind (mo_tell b.2.1 h3) fun _ h5 => some (b.2.2, h5)) (by omega) (fun n b k hk => by
          have hst : nI k &&& (nI o ^^^ -1) = 0 → mo_leftIn 52 (nI k) (B_t0 h1) = some (S_left S T (nI k), B_t0 h1) := fun q => by
            refine mo_leftIn_s (a := 52) (fun j h1 h2 => ?_) rfl rfl M1.1 M1.2 W
            cases hb : B_bit (nI k) j with
            | false => rfl
            | true =>
              have := (B_eq0 _).mp q j (by omega)
              rw [B_bit_and, B_bit_not _ (by omega), hb, Bool.true_and] at this
              have hbo : B_bit (nI o) j = true := by simpa using this
              have := hbits j (by omega) hbo
              omega
          simp (disch := omega) only [mo_exact_48, mo_exact_128, mo_exact_124, mo_exact_105, mo_exact_101, jn_bitCount_eq, bn_le, bn_lt, bn_eq, bn_le0, bn_0le, bn_lt0, bn_0lt, bn_eq0, bn_0eq, bn_eqm, bn_mlt0, bn_0lem, bn_m0, bn_mle0, bn_ltm, bn_mlt, bn_mle, bn_lem, nI_add, pk_mul, pk_sub, nI_clamp, B_n_nI, bn_0, bc_0, bc_m1, bc_1, bc_2, bc_3, bc_4, bc_5, bc_6, bc_7, bc_8, bc_9, bc_10, bc_11, bc_12, bc_13, bc_16, bc_22, bc_24, bc_32, bc_40, bc_41, bc_42, bc_43, bc_44, bc_45, bc_47, bc_48, bc_52, bc_57, bc_58, bc_59, bc_60, bc_61, bc_62, bc_63, bc_64, bc_76, bc_80, bc_97, bc_99, bc_105, bc_106, bc_107, bc_108, bc_109, bc_110, bc_111, bc_112, bc_113, bc_114, bc_115, bc_116, bc_117, bc_118, bc_119, bc_120, bc_121, bc_122, bc_255, bc_256, bc_400, bc_572, bc_999, bc_1024, bc_10000, bc_m2, bc_m3, bc_m8, bc_m100, bc_m200, B_bind, if_neg, S_eg]
          by_cases q1 : nI k &&& (nI o ^^^ -1) = 0
          · rw [hst q1]
            simp only [B_bind]
            generalize nI k &&& (nI o ^^^ -1) = w at q1
            by_cases q2 : S_left S T (nI k) = v1
            · by_cases q3 : b.1 = -1 <;> by_cases q4 : b.2.1 = -1 <;> by_cases q5 : B_pc b.1 ≤ B_pc (nI k) <;> by_cases q6 : B_pc (nI k) ≤ B_pc b.2.1 <;> simp [q1, q2, q3, q4, q5, q6]
            · simp [q1, q2]
          · generalize nI k &&& (nI o ^^^ -1) = w at q1
            simp [q1]) (fun n b => by
          have : nI o < nI (o + 1) := nI_lt (by omega) (by omega)
          simp (disch := omega) only [mo_exact_48, this, if_true, bc_0]) (-1, -1, 0)
        rw [nI_0] at eL
        rw [hF] at eL
        exact eL
    · refine ⟨-1, h, B_t0 h, ?_, ?_, B_qr I r⟩
      · unfold wu_exact
        rw [hs_hasPerson_eq _ R.1 h6, hx, B_bind, if_neg (by decide)]
        by_cases q : v1 < px_c 1
        · rw [if_pos q, e23]
        · rw [if_neg q]
          have q2 : ¬ v1 ≤ px_c 400 := fun q2 => hv (by
            rw [bc_1, Int32.lt_iff_toInt_lt, t1] at q
            rw [bc_400, Int32.le_iff_toInt_le, t400] at q2
            omega)
          rw [if_neg q2, e23]
      · rw [hmo, mo_isPerson_eq _ M.1.1 h6, hx, B_bind, if_neg (by decide), mo_in_eq, bc_1, bc_400, t1, t400, decide_eq_false hv, B_bind, if_pos (show B_01 false = 0 from rfl), e24]
/-- how many others know the things about one, if there are any -/
noncomputable def S_ct (S : pH) (T p : Nat) : Bool × Nat := B_fold (fun t b => if S 7 t = nI p then (true, b.2 + B_n (B_pc (S 9 t &&& ((nI 1 <<< (S 6 t &&& 31)) ^^^ -1)))) else b) 0 T (false, 0)
theorem S_ct_le (h10 : T ≤ 10) (p : Nat) : (S_ct S T p).2 ≤ 64 * (0 + T) := by
  unfold S_ct
  refine B_fold_inv (g := fun t (b : Bool × Nat) => if S 7 t = nI p then (true, b.2 + B_n (B_pc (S 9 t &&& ((nI 1 <<< (S 6 t &&& 31)) ^^^ -1)))) else b) (fun k b => b.2 ≤ 64 * k) T 0 (false, 0) (by show 0 ≤ 64 * 0; omega) (fun j b _ hj hb => ?_)
  obtain ⟨c, hc, ec⟩ := B_pc_pos (S 9 j &&& ((nI 1 <<< (S 6 j &&& 31)) ^^^ -1))
  have : B_n (B_pc (S 9 j &&& ((nI 1 <<< (S 6 j &&& 31)) ^^^ -1))) = c := by rw [ec, B_n_nI (by omega)]
  split
  · show b.2 + _ ≤ _
    omega
  · omega
def S_sp1 (g : Bool × Nat) (p : Nat) (st : Option (Nat × Nat)) : Option (Nat × Nat) := if g.1 = true then (match st with
  | none => some (p, g.2)
  | some q => if g.2 < q.2 then some (p, g.2) else some q) else st
theorem hs_knowers_s {p : Nat} (hp : p < P) (R : R_c h P T K Y S) (W : R_w P T K Y S) : hs_knowersOfThingsAbout (nI p) h = some (if (S_ct S T p).1 = true then nI (S_ct S T p).2 else -1, h) := by
  obtain ⟨hP, hT, hK, hY, c0, c1, c2, c3, c4, c5, c6, c7, c8, c9, c10⟩ := R
  have h10 := W.2.1
  unfold hs_knowersOfThingsAbout S_ct
  rw [bc_0, bc_m1, ← nI_0]
  have e := B_loopI (fun n (b : Bool × Nat) k => hs_knowersOfThingsAbout_4 n (nI p) (if b.1 = true then nI b.2 else -1) (nI k) h) T (fun t b => if S 7 t = nI p then (true, b.2 + B_n (B_pc (S 9 t &&& ((nI 1 <<< (S 6 t &&& 31)) ^^^ -1)))) else b) (fun b => some (if b.1 = true then nI b.2 else -1, h)) (fun k b => b.2 ≤ 64 * k ∧ (b.1 = false → b.2 = 0)) (fun n b k hk ⟨hb, hb2⟩ => by
    obtain ⟨c, hc, ec⟩ := B_pc_pos (S 9 k &&& ((nI 1 <<< (S 6 k &&& 31)) ^^^ -1))
    simp (disch := omega) only [hs_knowersOfThingsAbout_4, hs_knowersOfThingsAbout_59, hT, c7, c9, c6, jn_bitCount_eq, bn_le, bn_lt, bn_eq, bn_le0, bn_0le, bn_lt0, bn_0lt, bn_eq0, bn_0eq, bn_eqm, bn_mlt0, bn_0lem, bn_m0, bn_mle0, bn_ltm, bn_mlt, bn_mle, bn_lem, nI_add, pk_mul, pk_sub, nI_clamp, B_n_nI, bn_0, bc_0, bc_m1, bc_1, bc_2, bc_3, bc_4, bc_5, bc_6, bc_7, bc_8, bc_9, bc_10, bc_11, bc_12, bc_13, bc_16, bc_22, bc_24, bc_32, bc_40, bc_41, bc_42, bc_43, bc_44, bc_45, bc_47, bc_48, bc_52, bc_57, bc_58, bc_59, bc_60, bc_61, bc_62, bc_63, bc_64, bc_76, bc_80, bc_97, bc_99, bc_105, bc_106, bc_107, bc_108, bc_109, bc_110, bc_111, bc_112, bc_113, bc_114, bc_115, bc_116, bc_117, bc_118, bc_119, bc_120, bc_121, bc_122, bc_255, bc_256, bc_400, bc_572, bc_999, bc_1024, bc_10000, bc_m2, bc_m3, bc_m8, bc_m100, bc_m200, B_bind, if_neg, wa_4, wz_4, wa_5, wz_5, wa_6, wz_6, wa_7, wz_7, wa_8, wz_8, wa_9, wz_9, wa_10, wz_10, wa_11, wz_11, wa_12, wz_12, wa_13, wz_13, wa_15, wz_15, wa_16, wz_16, wa_18, wz_18, wa_19, wz_19, wa_20, wz_20, wa_23, wz_23, wa_24, wz_24, wa_26, wz_26, wa_27, wz_27, wa_28, wz_28, wa_29, wz_29, wa_30, wz_30, wa_31, wz_31, wa_32, wz_32, wa_34, wz_34, wa_35, wz_35, wa_36, wz_36, wa_37, wz_37, wa_38, wz_38, wa_39, wz_39, wa_40, wz_40, wa_42, wz_42, wa_44, wz_44, wa_46, wz_46, wa_48, wz_48, wa_49, wz_49, wa_50, wz_50]
    by_cases q : S 7 k = nI p
    · simp only [q, if_true]
      rw [ec, B_n_nI (by omega)]
      refine ⟨?_, by show b.2 + c ≤ _; omega, fun w => by cases w⟩
      have em : px_max 0 (if b.1 = true then nI b.2 else -1) = nI b.2 := by
        cases hb1 : b.1 with
        | true =>
          simp only [if_true]
          unfold px_max
          split
          · rfl
          · rename_i w
            rw [bn_0lt (by omega)] at w
            rw [show b.2 = 0 by omega, nI_0]
        | false =>
          rw [hb2 hb1, nI_0]
          rfl
      rw [em, nI_add]
    · simp only [q, if_false]
      exact ⟨trivial, by omega, hb2⟩) (fun n b _ => by
    simp (disch := omega) only [hs_knowersOfThingsAbout_4, hT, bn_le, bn_lt, bn_eq, bn_le0, bn_0le, bn_lt0, bn_0lt, bn_eq0, bn_0eq, bn_eqm, bn_mlt0, bn_0lem, bn_m0, bn_mle0, bn_ltm, bn_mlt, bn_mle, bn_lem, nI_add, pk_mul, pk_sub, nI_clamp, B_n_nI, bn_0, bc_0, bc_m1, bc_1, bc_2, bc_3, bc_4, bc_5, bc_6, bc_7, bc_8, bc_9, bc_10, bc_11, bc_12, bc_13, bc_16, bc_22, bc_24, bc_32, bc_40, bc_41, bc_42, bc_43, bc_44, bc_45, bc_47, bc_48, bc_52, bc_57, bc_58, bc_59, bc_60, bc_61, bc_62, bc_63, bc_64, bc_76, bc_80, bc_97, bc_99, bc_105, bc_106, bc_107, bc_108, bc_109, bc_110, bc_111, bc_112, bc_113, bc_114, bc_115, bc_116, bc_117, bc_118, bc_119, bc_120, bc_121, bc_122, bc_255, bc_256, bc_400, bc_572, bc_999, bc_1024, bc_10000, bc_m2, bc_m3, bc_m8, bc_m100, bc_m200, if_pos]) T 0 px_F (false, 0) (by omega) (px_F_lt (by omega)) ⟨by show 0 ≤ 64 * 0; omega, fun _ => rfl⟩
  exact e
theorem B_spared (hI : Inv i h) : ∃ r h1 h2, wu_spared h = some (r, h1) ∧ mo_spared h1 = some (r, h2) ∧ Inv (i + 5) h2 := by
  refine B_call hI (fun P T K Y n S ev I r R M W => ?_)
  have h6 := W.1
  have h10 := W.2.1
  let g : Nat → Option (Nat × Nat) → Option (Nat × Nat) := fun p st => S_sp1 (S_ct S T p) p st
  let J : Nat → Option (Nat × Nat) → Prop := fun k st => ∀ q, st = some q → q.1 < k ∧ q.2 ≤ 640
  have hJ : ∀ k st, J k st → J (k + 1) (g k st) := fun k st hj q hq => by
    have hct := S_ct_le (S := S) (T := T) h10 k
    dsimp only [g] at hq
    unfold S_sp1 at hq
    split at hq
    · split at hq
      · cases hq
        exact ⟨by show k < k + 1; omega, by show (S_ct S T k).2 ≤ 640; omega⟩
      · split at hq
        · cases hq
          exact ⟨by show k < k + 1; omega, by show (S_ct S T k).2 ≤ 640; omega⟩
        · cases hq
          have := hj _ rfl
          omega
    · have := hj q hq
      omega
  -- the class
  let ec : Option (Nat × Nat) → Int32 × Int32 := fun st => match st with
    | none => (-1, 0)
    | some q => (nI q.1, nI q.2)
  let em : Option (Nat × Nat) → Int32 × Int32 := fun st => match st with
    | none => (-2, nI 1000000)
    | some q => (nI q.1, nI q.2)
  have eC := B_loopI (fun n (st : Option (Nat × Nat)) k => wu_spared_6 n (ec st).1 (ec st).2 (nI k) h) P g (fun st => if (ec st).1 = -1 then some (-2, h) else px_bind (tl_tell (ec st).2 h) fun _ h2 => some ((ec st).1, h2)) J (fun n st k hk hj => ⟨by
    have hct := S_ct_le (S := S) (T := T) h10 k
    simp (disch := omega) only [wu_spared_6, wu_spared_49, wu_spared_44, R.1, hs_knowers_s hk R W, bn_le, bn_lt, bn_eq, bn_le0, bn_0le, bn_lt0, bn_0lt, bn_eq0, bn_0eq, bn_eqm, bn_mlt0, bn_0lem, bn_m0, bn_mle0, bn_ltm, bn_mlt, bn_mle, bn_lem, nI_add, pk_mul, pk_sub, nI_clamp, B_n_nI, bn_0, bc_0, bc_m1, bc_1, bc_2, bc_3, bc_4, bc_5, bc_6, bc_7, bc_8, bc_9, bc_10, bc_11, bc_12, bc_13, bc_16, bc_22, bc_24, bc_32, bc_40, bc_41, bc_42, bc_43, bc_44, bc_45, bc_47, bc_48, bc_52, bc_57, bc_58, bc_59, bc_60, bc_61, bc_62, bc_63, bc_64, bc_76, bc_80, bc_97, bc_99, bc_105, bc_106, bc_107, bc_108, bc_109, bc_110, bc_111, bc_112, bc_113, bc_114, bc_115, bc_116, bc_117, bc_118, bc_119, bc_120, bc_121, bc_122, bc_255, bc_256, bc_400, bc_572, bc_999, bc_1024, bc_10000, bc_m2, bc_m3, bc_m8, bc_m100, bc_m200, B_bind, if_neg]
    dsimp only [g]
    unfold S_sp1
    generalize S_ct S T k = ct at *
    cases h1 : ct.1 with
    | false => simp
    | true =>
      cases st with
      | none => simp (disch := omega) only [bn_eqm, if_true, if_false, ec]
      | some q =>
        have hq := hj q rfl
        by_cases w : ct.2 < q.2
        · simp (disch := omega) only [bn_eqm, bn_le, if_true, if_false, ec, w, if_neg, if_pos]
        · simp (disch := omega) only [bn_eqm, bn_le, if_true, if_false, ec, w, if_neg, if_pos], hJ k st hj⟩) (fun n st _ => by
    simp (disch := omega) only [wu_spared_6, R.1, bn_le, bn_lt, bn_eq, bn_le0, bn_0le, bn_lt0, bn_0lt, bn_eq0, bn_0eq, bn_eqm, bn_mlt0, bn_0lem, bn_m0, bn_mle0, bn_ltm, bn_mlt, bn_mle, bn_lem, nI_add, pk_mul, pk_sub, nI_clamp, B_n_nI, bn_0, bc_0, bc_m1, bc_1, bc_2, bc_3, bc_4, bc_5, bc_6, bc_7, bc_8, bc_9, bc_10, bc_11, bc_12, bc_13, bc_16, bc_22, bc_24, bc_32, bc_40, bc_41, bc_42, bc_43, bc_44, bc_45, bc_47, bc_48, bc_52, bc_57, bc_58, bc_59, bc_60, bc_61, bc_62, bc_63, bc_64, bc_76, bc_80, bc_97, bc_99, bc_105, bc_106, bc_107, bc_108, bc_109, bc_110, bc_111, bc_112, bc_113, bc_114, bc_115, bc_116, bc_117, bc_118, bc_119, bc_120, bc_121, bc_122, bc_255, bc_256, bc_400, bc_572, bc_999, bc_1024, bc_10000, bc_m2, bc_m3, bc_m8, bc_m100, bc_m200, if_pos]) P 0 px_F none (by omega) (px_F_lt (by omega)) (fun q hq => by cases hq)
  have hF := B_loopI (fun n (st : Option (Nat × Nat)) k => J k st) P g (fun st => J P st) J (fun n st k hk hj => ⟨propext ⟨fun _ => hJ k st hj, fun _ => hj⟩, hJ k st hj⟩) (fun n st hj => rfl) P 0 px_F none (by omega) (px_F_lt (by omega)) (fun q hq => by cases hq)
  have hJF : J P (B_fold g 0 P none) := by
    rw [← hF]
    exact fun q hq => by cases hq
  have eM : ∀ h1, R_m (B_t0 h1) P T K Y S → mo_spared h1 = if 0 ≤ (em (B_fold g 0 P none)).1 then px_bind (mo_tell (em (B_fold g 0 P none)).2 (px_w (B_t0 h1) 51 13 0)) fun _ h3 => some ((em (B_fold g 0 P none)).1, h3) else some (-2, B_t0 h1) := fun h1 M1 => by
    have e := B_loopI (fun n (st : Option (Nat × Nat)) k => mo_spared_14 n (em st).1 (em st).2 (nI k) (B_t0 h1)) P g (fun st => if 0 ≤ (em st).1 then px_bind (mo_tell (em st).2 (px_w (B_t0 h1) 51 13 0)) fun _ h3 => some ((em st).1, h3) else some (-2, B_t0 h1)) J (fun n st k hk hj => ⟨by
      have hct := S_ct_le (S := S) (T := T) h10 k
      have hin : mo_spared_31 (mo_spared_14 n) px_F (em st).1 (em st).2 (nI k) 0 0 0 (B_t0 h1) = (if (S_ct S T k).1 = true then (if nI (S_ct S T k).2 < (em st).2 then mo_spared_14 n (nI k) (nI (S_ct S T k).2) (nI (k + 1)) (B_t0 h1) else mo_spared_14 n (em st).1 (em st).2 (nI (k + 1)) (B_t0 h1)) else mo_spared_14 n (em st).1 (em st).2 (nI (k + 1)) (B_t0 h1)) := by
        have e2 := B_loop0 (fun m (b : Bool × Nat) t => mo_spared_31 (mo_spared_14 n) m (em st).1 (em st).2 (nI k) (nI b.2) (B_01 b.1) (nI t) (B_t0 h1)) T (fun t b => if S 7 t = nI k then (true, b.2 + B_n (B_pc (S 9 t &&& ((nI 1 <<< (S 6 t &&& 31)) ^^^ -1)))) else b) (fun b => if b.1 = true then (if nI b.2 < (em st).2 then mo_spared_14 n (nI k) (nI b.2) (nI (k + 1)) (B_t0 h1) else mo_spared_14 n (em st).1 (em st).2 (nI (k + 1)) (B_t0 h1)) else mo_spared_14 n (em st).1 (em st).2 (nI (k + 1)) (B_t0 h1)) (by omega) (fun m b t ht => by
          obtain ⟨c, hc, ec⟩ := B_pc_pos (S 9 t &&& ((nI 1 <<< (S 6 t &&& 31)) ^^^ -1))
          have m7 := M1.1.2.2.2.2.2.2.2.1 t ht
          have a9 := M1.2.2.2.2.2.2 t ht
          have a6 := M1.2.2.2.2.2.1 t ht
          simp (disch := omega) only [mo_spared_31, mo_spared_90, M1.1.2.1, m7, a9, a6, jn_bitCount_eq, bn_le, bn_lt, bn_eq, bn_le0, bn_0le, bn_lt0, bn_0lt, bn_eq0, bn_0eq, bn_eqm, bn_mlt0, bn_0lem, bn_m0, bn_mle0, bn_ltm, bn_mlt, bn_mle, bn_lem, nI_add, pk_mul, pk_sub, nI_clamp, B_n_nI, bn_0, bc_0, bc_m1, bc_1, bc_2, bc_3, bc_4, bc_5, bc_6, bc_7, bc_8, bc_9, bc_10, bc_11, bc_12, bc_13, bc_16, bc_22, bc_24, bc_32, bc_40, bc_41, bc_42, bc_43, bc_44, bc_45, bc_47, bc_48, bc_52, bc_57, bc_58, bc_59, bc_60, bc_61, bc_62, bc_63, bc_64, bc_76, bc_80, bc_97, bc_99, bc_105, bc_106, bc_107, bc_108, bc_109, bc_110, bc_111, bc_112, bc_113, bc_114, bc_115, bc_116, bc_117, bc_118, bc_119, bc_120, bc_121, bc_122, bc_255, bc_256, bc_400, bc_572, bc_999, bc_1024, bc_10000, bc_m2, bc_m3, bc_m8, bc_m100, bc_m200, B_bind, B_ift, if_neg, po_52, pz_52, po_53, pz_53, po_54, pz_54, po_55, pz_55, po_56, pz_56, po_57, pz_57, po_58, pz_58, po_59, pz_59, po_60, pz_60, po_61, pz_61, po_62, pz_62, po_63, pz_63, po_64, pz_64, po_65, pz_65, po_66, pz_66, po_67, pz_67, po_68, pz_68, po_69, pz_69, po_70, pz_70, po_71, pz_71, po_72, pz_72, po_73, pz_73, po_74, pz_74, po_75, pz_75, po_76, pz_76, po_77, pz_77, po_78, pz_78, po_79, pz_79, po_80, pz_80, po_81, pz_81]
          by_cases q : S 7 t = nI k
          · simp (disch := omega) only [q, if_true, ec, B_n_nI, nI_add]
            rfl
          · simp only [q, if_false]) (fun m b => by
          simp (disch := omega) only [mo_spared_31, mo_spared_115, M1.1.2.1, bn_le, bn_lt, bn_eq, bn_le0, bn_0le, bn_lt0, bn_0lt, bn_eq0, bn_0eq, bn_eqm, bn_mlt0, bn_0lem, bn_m0, bn_mle0, bn_ltm, bn_mlt, bn_mle, bn_lem, nI_add, pk_mul, pk_sub, nI_clamp, B_n_nI, bn_0, bc_0, bc_m1, bc_1, bc_2, bc_3, bc_4, bc_5, bc_6, bc_7, bc_8, bc_9, bc_10, bc_11, bc_12, bc_13, bc_16, bc_22, bc_24, bc_32, bc_40, bc_41, bc_42, bc_43, bc_44, bc_45, bc_47, bc_48, bc_52, bc_57, bc_58, bc_59, bc_60, bc_61, bc_62, bc_63, bc_64, bc_76, bc_80, bc_97, bc_99, bc_105, bc_106, bc_107, bc_108, bc_109, bc_110, bc_111, bc_112, bc_113, bc_114, bc_115, bc_116, bc_117, bc_118, bc_119, bc_120, bc_121, bc_122, bc_255, bc_256, bc_400, bc_572, bc_999, bc_1024, bc_10000, bc_m2, bc_m3, bc_m8, bc_m100, bc_m200, if_pos]
          cases b.1 with
          | true => simp [B_01_t, bn_10]
          | false => simp [B_01_f]) (false, 0)
        rw [nI_0] at e2
        exact e2
      simp (disch := omega) only [mo_spared_14, M1.1.1, bn_le, bn_lt, bn_eq, bn_le0, bn_0le, bn_lt0, bn_0lt, bn_eq0, bn_0eq, bn_eqm, bn_mlt0, bn_0lem, bn_m0, bn_mle0, bn_ltm, bn_mlt, bn_mle, bn_lem, nI_add, pk_mul, pk_sub, nI_clamp, B_n_nI, bn_0, bc_0, bc_m1, bc_1, bc_2, bc_3, bc_4, bc_5, bc_6, bc_7, bc_8, bc_9, bc_10, bc_11, bc_12, bc_13, bc_16, bc_22, bc_24, bc_32, bc_40, bc_41, bc_42, bc_43, bc_44, bc_45, bc_47, bc_48, bc_52, bc_57, bc_58, bc_59, bc_60, bc_61, bc_62, bc_63, bc_64, bc_76, bc_80, bc_97, bc_99, bc_105, bc_106, bc_107, bc_108, bc_109, bc_110, bc_111, bc_112, bc_113, bc_114, bc_115, bc_116, bc_117, bc_118, bc_119, bc_120, bc_121, bc_122, bc_255, bc_256, bc_400, bc_572, bc_999, bc_1024, bc_10000, bc_m2, bc_m3, bc_m8, bc_m100, bc_m200, if_neg]
      rw [hin]
      dsimp only [g]
      unfold S_sp1
      generalize S_ct S T k = ct at *
      cases h1 : ct.1 with
      | false => simp
      | true =>
        cases st with
        | none => simp (disch := omega) only [bn_lt, if_true, if_false, em, if_pos]
        | some q =>
          have hq := hj q rfl
          by_cases w : ct.2 < q.2
          · simp (disch := omega) only [bn_lt, if_true, if_false, em, w, if_neg, if_pos]
          · simp (disch := omega) only [bn_lt, if_true, if_false, em, w, if_neg, if_pos], hJ k st hj⟩) (fun n st _ => by
      simp (disch := omega) only [mo_spared_14, M1.1.1, bn_le, bn_lt, bn_eq, bn_le0, bn_0le, bn_lt0, bn_0lt, bn_eq0, bn_0eq, bn_eqm, bn_mlt0, bn_0lem, bn_m0, bn_mle0, bn_ltm, bn_mlt, bn_mle, bn_lem, nI_add, pk_mul, pk_sub, nI_clamp, B_n_nI, bn_0, bc_0, bc_m1, bc_1, bc_2, bc_3, bc_4, bc_5, bc_6, bc_7, bc_8, bc_9, bc_10, bc_11, bc_12, bc_13, bc_16, bc_22, bc_24, bc_32, bc_40, bc_41, bc_42, bc_43, bc_44, bc_45, bc_47, bc_48, bc_52, bc_57, bc_58, bc_59, bc_60, bc_61, bc_62, bc_63, bc_64, bc_76, bc_80, bc_97, bc_99, bc_105, bc_106, bc_107, bc_108, bc_109, bc_110, bc_111, bc_112, bc_113, bc_114, bc_115, bc_116, bc_117, bc_118, bc_119, bc_120, bc_121, bc_122, bc_255, bc_256, bc_400, bc_572, bc_999, bc_1024, bc_10000, bc_m2, bc_m3, bc_m8, bc_m100, bc_m200, if_pos]) P 0 px_F none (by omega) (px_F_lt (by omega)) (fun q hq => by cases hq)
    unfold mo_spared
    have ek : px_k 1000000 = nI 1000000 := px_k_eq _
    rw [bc_0, bc_m2]
    show mo_spared_14 px_F (-2) (px_k 1000000) 0 (B_t0 h1) = _
    rw [ek, ← nI_0]
    rw [nI_0] at e ⊢
    exact e
  have eC' : wu_spared h = if (ec (B_fold g 0 P none)).1 = -1 then some (-2, h) else px_bind (tl_tell (ec (B_fold g 0 P none)).2 h) fun _ h2 => some ((ec (B_fold g 0 P none)).1, h2) := by
    unfold wu_spared
    rw [bc_0, bc_m1]
    rw [nI_0] at eC
    exact eC
  cases hst : B_fold g 0 P none with
  | none =>
    rw [hst] at eC'
    refine ⟨-2, h, B_t0 h, ?_, ?_, B_qr I r⟩
    · rw [eC']
      rfl
    · rw [eM h M, hst]
      rfl
  | some q =>
    have hq := hJF q hst
    rw [hst] at eC'
    refine B_ask1 (x := nI q.2) (v := nI q.1) I ?_ (fun h1 M1 => ?_)
    · rw [eC']
      show (if nI q.1 = -1 then _ else _) = _
      rw [if_neg (fun w => by rw [bn_eqm (by omega)] at w; exact w)]
    · rw [eM h1 M1, hst]
      show (if 0 ≤ nI q.1 then _ else _) = _
      rw [if_pos (nI_pos' (by omega))]
end EXACT
