/-! Layer B: sayable, known, spared, bargain -/
def B_any (q : Nat → Bool) : Nat → Nat → Bool
  | _, 0 => false
  | k, m + 1 => q k || B_any q (k + 1) m
def B_all (q : Nat → Bool) : Nat → Nat → Bool
  | _, 0 => true
  | k, m + 1 => q k && B_all q (k + 1) m
theorem B_any_iff (q : Nat → Bool) : ∀ m k, B_any q k m = true ↔ ∃ j, k ≤ j ∧ j < k + m ∧ q j = true := by
  intro m
  induction m with
  | zero =>
    intro k
    exact ⟨fun h => (by cases h), fun ⟨j, h1, h2, _⟩ => (by omega)⟩
  | succ m ih =>
    intro k
    unfold B_any
    rw [Bool.or_eq_true, ih (k + 1)]
    constructor
    · rintro (h | ⟨j, h1, h2, h3⟩)
      · exact ⟨k, by omega, by omega, h⟩
      · exact ⟨j, by omega, by omega, h3⟩
    · rintro ⟨j, h1, h2, h3⟩
      by_cases e : j = k
      · subst e
        exact Or.inl h3
      · exact Or.inr ⟨j, by omega, by omega, h3⟩
theorem B_all_iff (q : Nat → Bool) : ∀ m k, B_all q k m = true ↔ ∀ j, k ≤ j → j < k + m → q j = true := by
  intro m
  induction m with
  | zero =>
    intro k
    exact ⟨fun _ j h1 h2 => (by omega), fun _ => rfl⟩
  | succ m ih =>
    intro k
    unfold B_all
    rw [Bool.and_eq_true, ih (k + 1)]
    constructor
    · rintro ⟨h, h3⟩ j h1 h2
      by_cases e : j = k
      · subst e
        exact h
      · exact h3 j (by omega) (by omega)
    · intro h
      exact ⟨h k (by omega) (by omega), fun j h1 h2 => h j (by omega) (by omega)⟩
theorem B_orf (c : Nat → Bool) (f : Nat → Int32) {j : Nat} : ∀ m k (a : Int32), B_bit (B_fold (fun p a => if c p = true then a ||| f p else a) k m a) j = (B_bit a j || B_any (fun p => c p && B_bit (f p) j) k m) := by
  intro m
  induction m with
  | zero =>
    intro k a
    show B_bit a j = (B_bit a j || false)
    rw [Bool.or_false]
  | succ m ih =>
    intro k a
    show B_bit (B_fold _ (k + 1) m (if c k = true then a ||| f k else a)) j = (B_bit a j || ((c k && B_bit (f k) j) || B_any _ (k + 1) m))
    rw [ih]
    cases hc : c k with
    | true => rw [if_pos rfl, B_bit_or, Bool.or_assoc, Bool.true_and]
    | false => rw [if_neg (by decide), Bool.false_and, Bool.false_or]
theorem B_andf (c : Nat → Bool) (f : Nat → Int32) {j : Nat} : ∀ m k (a : Int32), B_bit (B_fold (fun p a => if c p = true then a &&& f p else a) k m a) j = (B_bit a j && B_all (fun p => !(c p) || B_bit (f p) j) k m) := by
  intro m
  induction m with
  | zero =>
    intro k a
    show B_bit a j = (B_bit a j && true)
    rw [Bool.and_true]
  | succ m ih =>
    intro k a
    show B_bit (B_fold _ (k + 1) m (if c k = true then a &&& f k else a)) j = (B_bit a j && ((!(c k) || B_bit (f k) j) && B_all _ (k + 1) m))
    rw [ih]
    cases hc : c k with
    | true => rw [if_pos rfl, B_bit_and, Bool.and_assoc, Bool.not_true, Bool.false_or]
    | false => rw [if_neg (by decide), Bool.not_false, Bool.true_or, Bool.true_and]
theorem B_eq0 (x : Int32) : x = 0 ↔ ∀ k, k < 32 → B_bit x k = false := by
  constructor
  · intro e k _
    rw [e, B_bit_0]
  · intro h
    refine B_ext (fun k hk => ?_)
    rw [h k hk, B_bit_0]
section ASK
variable {i : Nat} {h : pH} {P T K Y n : Nat} {S : pH} {ev : pE}
theorem B_ask1 {fc fm : pH → pR} {x v : Int32} (I : I_h h P T K Y i n S ev) (hc : fc h = px_bind (tl_tell x h) fun _ h2 => some (v, h2)) (hm : ∀ h1, R_m (B_t0 h1) P T K Y S → fm h1 = px_bind (mo_tell x (px_w (B_t0 h1) 51 13 0)) fun _ h3 => some (v, h3)) : ∃ r h1 h2, fc h = some (r, h1) ∧ fm h1 = some (r, h2) ∧ Inv (i + 5) h2 := by
  obtain ⟨h1, e1, r1, f1⟩ := tl_tell_s h x
  have F1 := f1.mono B_frw_sc
  obtain ⟨h2, e2, r2, f2⟩ := mo_tell_s x (B_rm_nil (B_t0 h1)) (by decide)
  refine ⟨v, h1, h2, by rw [hc, e1, B_bind], by rw [hm h1 ((I.2.1.sm F1.sm_c).sm (B_t0_fr h1).sm_d), e2, B_bind], B_q1 I F1 (((B_t0_fr h1).w (a := 51) (k := 13) rfl).trans (f2.mono B_frm_sd)) r1 r2 (by simp)⟩
theorem B_ask2 {fc fm : pH → pR} {x y v : Int32} (I : I_h h P T K Y i n S ev) (hc : fc h = px_bind (tl_tell_ x y h) fun _ h2 => some (v, h2)) (hm : ∀ h1, R_m (B_t0 h1) P T K Y S → fm h1 = px_bind (mo_tell x (px_w (B_t0 h1) 51 13 0)) fun _ h3 => px_bind (mo_tell y h3) fun _ h5 => some (v, h5)) : ∃ r h1 h2, fc h = some (r, h1) ∧ fm h1 = some (r, h2) ∧ Inv (i + 5) h2 := by
  obtain ⟨h1, e1, r1, f1⟩ := tl_tell_2 h x y
  have F1 := f1.mono B_frw_sc
  obtain ⟨h2, e2, r2, f2⟩ := mo_tell_s x (B_rm_nil (B_t0 h1)) (by decide)
  obtain ⟨h3, e3, r3, f3⟩ := mo_tell_s y r2 (by simp)
  refine ⟨v, h1, h3, by rw [hc, e1, B_bind], by rw [hm h1 ((I.2.1.sm F1.sm_c).sm (B_t0_fr h1).sm_d), e2, B_bind, e3, B_bind], B_q1 I F1 (((B_t0_fr h1).w (a := 51) (k := 13) rfl).trans ((f2.trans f3).mono B_frm_sd)) r1 r3 (by simp)⟩
theorem S_nsay_iff {x y : Int32} : 0 ≤ S_nsay S P T x y ↔ S_nsay S P T x y = 0 := by
  unfold S_nsay
  split
  · split
    · decide
    · split
      · decide
      · split
        · decide
        · decide
  · decide
theorem B_sayable (hI : Inv i h) (v0 : Int32) : ∃ r h1 h2, wu_sayable v0 h = some (r, h1) ∧ mo_sayable v0 h1 = some (r, h2) ∧ Inv (i + 5) h2 := by
  refine B_call hI (fun P T K Y n S ev I r R M W => ?_)
  have h6 := W.1
  have h10 := W.2.1
  have hmo : ∀ h1, mo_sayable v0 h1 = px_bind (mo_isPerson v0 (B_t0 h1)) fun z2 h3 => if z2 = 0 then some (-1, h3) else mo_sayable_22 px_F v0 0 0 0 h3 := fun h1 => by
    unfold mo_sayable B_t0
    rw [bc_0, bc_m1]
  cases hx : B_is v0 P with
  | false =>
    refine ⟨-1, h, B_t0 h, ?_, ?_, B_qr I r⟩
    · unfold wu_sayable
      rw [hs_hasPerson_eq _ R.1 h6, hx, B_bind, if_pos (show B_01 false = 0 from rfl), bc_m1]
    · rw [hmo, mo_isPerson_eq _ M.1.1 h6, hx, B_bind, if_pos (show B_01 false = 0 from rfl)]
  | true =>
    obtain ⟨p, hp, rfl⟩ := B_is_ex hx (by omega)
    let g : Nat → Int32 × Int32 → Int32 × Int32 := fun t b => if S_nsay S P T (nI p) (nI t) = 0 then (b.1 ||| (nI 1 <<< (nI t &&& 31)), b.2 + B_pc (S_hear S P p t)) else b
    refine B_ask1 (x := (B_fold g 0 T (0, 0)).2) (v := (B_fold g 0 T (0, 0)).1) I ?_ (fun h1 M1 => ?_)
    · unfold wu_sayable
      rw [hs_hasPerson_eq _ R.1 h6, hx, B_bind, if_neg (by decide), bc_0]
      have eL := B_loop0 (fun n b k => wu_sayable_20 n (nI p) b.1 b.2 (nI k) h) T g (fun b => px_bind (tl_tell b.2 h) fun _ h2 => some (b.1, h2)) (by omega) (fun n b k hk => by
        have hnt := hs_newTo_s hp hk R W
        simp (disch := omega) only [wu_sayable_20, wu_sayable_68, R.2.1, hs_whyNotSay_s _ _ R W, hnt, jn_bitCount_eq, bn_le, bn_lt, bn_eq, bn_le0, bn_0le, bn_lt0, bn_0lt, bn_eq0, bn_0eq, bn_eqm, bn_mlt0, bn_0lem, bn_m0, bn_mle0, bn_ltm, bn_mlt, bn_mle, bn_lem, nI_add, pk_mul, pk_sub, nI_clamp, B_n_nI, bn_0, bc_0, bc_m1, bc_1, bc_2, bc_3, bc_4, bc_5, bc_6, bc_7, bc_8, bc_9, bc_10, bc_11, bc_12, bc_13, bc_16, bc_22, bc_24, bc_32, bc_40, bc_41, bc_42, bc_43, bc_44, bc_45, bc_47, bc_48, bc_52, bc_57, bc_58, bc_59, bc_60, bc_61, bc_62, bc_63, bc_64, bc_76, bc_80, bc_97, bc_99, bc_105, bc_106, bc_107, bc_108, bc_109, bc_110, bc_111, bc_112, bc_113, bc_114, bc_115, bc_116, bc_117, bc_118, bc_119, bc_120, bc_121, bc_122, bc_255, bc_256, bc_400, bc_572, bc_999, bc_1024, bc_10000, bc_m2, bc_m3, bc_m8, bc_m100, bc_m200, B_bind, if_neg, g]
        by_cases q : S_nsay S P T (nI p) (nI k) = 0
        · simp only [q, if_true]
          rfl
        · simp only [q, if_false]) (fun n b => by
        simp (disch := omega) only [wu_sayable_20, R.2.1, bn_le, bn_lt, bn_eq, bn_le0, bn_0le, bn_lt0, bn_0lt, bn_eq0, bn_0eq, bn_eqm, bn_mlt0, bn_0lem, bn_m0, bn_mle0, bn_ltm, bn_mlt, bn_mle, bn_lem, nI_add, pk_mul, pk_sub, nI_clamp, B_n_nI, bn_0, bc_0, bc_m1, bc_1, bc_2, bc_3, bc_4, bc_5, bc_6, bc_7, bc_8, bc_9, bc_10, bc_11, bc_12, bc_13, bc_16, bc_22, bc_24, bc_32, bc_40, bc_41, bc_42, bc_43, bc_44, bc_45, bc_47, bc_48, bc_52, bc_57, bc_58, bc_59, bc_60, bc_61, bc_62, bc_63, bc_64, bc_76, bc_80, bc_97, bc_99, bc_105, bc_106, bc_107, bc_108, bc_109, bc_110, bc_111, bc_112, bc_113, bc_114, bc_115, bc_116, bc_117, bc_118, bc_119, bc_120, bc_121, bc_122, bc_255, bc_256, bc_400, bc_572, bc_999, bc_1024, bc_10000, bc_m2, bc_m3, bc_m8, bc_m100, bc_m200, if_pos]) (0, 0)
      rw [nI_0] at eL
      exact eL
    · rw [hmo, mo_isPerson_eq _ M1.1.1 h6, hx, B_bind, if_neg (by decide)]
      have eL := B_loop0 (fun n b k => mo_sayable_22 n (nI p) b.1 b.2 (nI k) (B_t0 h1)) T g (fun b => px_bind (mo_tell b.2 (px_w (B_t0 h1) 51 13 0)) fun _ h2 => some (b.1, h2)) (by omega) (fun n b k hk => by
        have a1 := M1.2.1 p hp
        have a9 := M1.2.2.2.2.2.2 k hk
        simp (disch := omega) only [mo_sayable_22, mo_sayable_86, M1.1.2.1, mo_refusesSay_s _ _ M1 W, S_nsay_iff, bn_le, bn_lt, bn_eq, bn_le0, bn_0le, bn_lt0, bn_0lt, bn_eq0, bn_0eq, bn_eqm, bn_mlt0, bn_0lem, bn_m0, bn_mle0, bn_ltm, bn_mlt, bn_mle, bn_lem, nI_add, pk_mul, pk_sub, nI_clamp, B_n_nI, bn_0, bc_0, bc_m1, bc_1, bc_2, bc_3, bc_4, bc_5, bc_6, bc_7, bc_8, bc_9, bc_10, bc_11, bc_12, bc_13, bc_16, bc_22, bc_24, bc_32, bc_40, bc_41, bc_42, bc_43, bc_44, bc_45, bc_47, bc_48, bc_52, bc_57, bc_58, bc_59, bc_60, bc_61, bc_62, bc_63, bc_64, bc_76, bc_80, bc_97, bc_99, bc_105, bc_106, bc_107, bc_108, bc_109, bc_110, bc_111, bc_112, bc_113, bc_114, bc_115, bc_116, bc_117, bc_118, bc_119, bc_120, bc_121, bc_122, bc_255, bc_256, bc_400, bc_572, bc_999, bc_1024, bc_10000, bc_m2, bc_m3, bc_m8, bc_m100, bc_m200, B_bind, if_neg, g]
        by_cases q : S_nsay S P T (nI p) (nI k) = 0
        · obtain ⟨p', t', hp', ht', ep, et, e6⟩ := S_nsay_0 (S := S) (P := P) (T := T) (x := nI p) (y := nI k) W (S_nsay_iff.mpr q)
          have ep' : p' = p := ((nI_eq (by omega) (by omega)).mp ep).symm
          have et' : t' = k := ((nI_eq (by omega) (by omega)).mp et).symm
          subst ep'
          subst et'
          have e9 := (S_hear_eq ht' e6 hp' W).1
          simp (disch := omega) only [q, if_true, a1, a9, mo_peopleAt_s _ M1 W, jn_bitCount_eq, bn_le, bn_lt, bn_eq, bn_le0, bn_0le, bn_lt0, bn_0lt, bn_eq0, bn_0eq, bn_eqm, bn_mlt0, bn_0lem, bn_m0, bn_mle0, bn_ltm, bn_mlt, bn_mle, bn_lem, nI_add, pk_mul, pk_sub, nI_clamp, B_n_nI, bn_0, bc_0, bc_m1, bc_1, bc_2, bc_3, bc_4, bc_5, bc_6, bc_7, bc_8, bc_9, bc_10, bc_11, bc_12, bc_13, bc_16, bc_22, bc_24, bc_32, bc_40, bc_41, bc_42, bc_43, bc_44, bc_45, bc_47, bc_48, bc_52, bc_57, bc_58, bc_59, bc_60, bc_61, bc_62, bc_63, bc_64, bc_76, bc_80, bc_97, bc_99, bc_105, bc_106, bc_107, bc_108, bc_109, bc_110, bc_111, bc_112, bc_113, bc_114, bc_115, bc_116, bc_117, bc_118, bc_119, bc_120, bc_121, bc_122, bc_255, bc_256, bc_400, bc_572, bc_999, bc_1024, bc_10000, bc_m2, bc_m3, bc_m8, bc_m100, bc_m200, B_bind, B_ift, po_52, pz_52, po_53, pz_53, po_54, pz_54, po_55, pz_55, po_56, pz_56, po_57, pz_57, po_58, pz_58, po_59, pz_59, po_60, pz_60, po_61, pz_61, po_62, pz_62, po_63, pz_63, po_64, pz_64, po_65, pz_65, po_66, pz_66, po_67, pz_67, po_68, pz_68, po_69, pz_69, po_70, pz_70, po_71, pz_71, po_72, pz_72, po_73, pz_73, po_74, pz_74, po_75, pz_75, po_76, pz_76, po_77, pz_77, po_78, pz_78, po_79, pz_79, po_80, pz_80, po_81, pz_81, e9]
        · simp only [q, if_false]) (fun n b => by
        simp (disch := omega) only [mo_sayable_22, M1.1.2.1, bn_le, bn_lt, bn_eq, bn_le0, bn_0le, bn_lt0, bn_0lt, bn_eq0, bn_0eq, bn_eqm, bn_mlt0, bn_0lem, bn_m0, bn_mle0, bn_ltm, bn_mlt, bn_mle, bn_lem, nI_add, pk_mul, pk_sub, nI_clamp, B_n_nI, bn_0, bc_0, bc_m1, bc_1, bc_2, bc_3, bc_4, bc_5, bc_6, bc_7, bc_8, bc_9, bc_10, bc_11, bc_12, bc_13, bc_16, bc_22, bc_24, bc_32, bc_40, bc_41, bc_42, bc_43, bc_44, bc_45, bc_47, bc_48, bc_52, bc_57, bc_58, bc_59, bc_60, bc_61, bc_62, bc_63, bc_64, bc_76, bc_80, bc_97, bc_99, bc_105, bc_106, bc_107, bc_108, bc_109, bc_110, bc_111, bc_112, bc_113, bc_114, bc_115, bc_116, bc_117, bc_118, bc_119, bc_120, bc_121, bc_122, bc_255, bc_256, bc_400, bc_572, bc_999, bc_1024, bc_10000, bc_m2, bc_m3, bc_m8, bc_m100, bc_m200, if_pos]) (0, 0)
      rw [nI_0] at eL
      exact eL
/-- a place -/
theorem rv_hasPlace_s (x : Int32) (R : R_c h P T K Y S) (W : R_w P T K Y S) : rv_hasPlace x h = some (B_01 (B_is x (2 + K)), h) := by
  have h5 := W.2.2.1
  unfold rv_hasPlace rv_hasPlace_19 rv_hasPlace_24
  by_cases h0 : x = 0
  · subst h0
    have : B_is 0 (2 + K) = true := by rw [← nI_0]; exact B_is_t (by omega) (by omega)
    rw [if_pos rfl, this, bc_1, B_bz1]
    rfl
  · rw [if_neg h0, bc_1]
    by_cases h1 : x = nI 1
    · subst h1
      have : B_is (nI 1) (2 + K) = true := B_is_t (by omega) (by omega)
      rw [if_pos rfl, this, B_bz1]
      rfl
    · rw [if_neg h1, bc_2, rv_hasIslet_s _ R W, B_bind]
      have hk : B_is (x - nI 2) K = B_is x (2 + K) := by
        cases hq : B_is x (2 + K) with
        | true =>
          obtain ⟨k, hk, rfl⟩ := B_is_ex hq (by omega)
          have k0 : ¬ k = 0 := fun e => h0 (by rw [e, nI_0])
          have k1 : ¬ k = 1 := fun e => h1 (by rw [e])
          rw [pk_sub (by omega)]
          exact B_is_t (by omega) (by omega)
        | false =>
          cases hp : B_is (x - nI 2) K with
          | false => rfl
          | true =>
            obtain ⟨k, hk, e⟩ := B_is_ex hp (by omega)
            have ex : x = nI (2 + k) := by
              rw [← nI_add, ← e, Int32.add_comm, Int32.sub_add_cancel]
            rw [ex, B_is_t (by omega) (by omega)] at hq
            cases hq
      rw [hk]
      cases B_is x (2 + K) with
      | true => rw [if_neg (by decide), B_bz1]; rfl
      | false => rw [if_pos (show B_01 false = 0 from rfl), bc_0, B_bz0]; rfl
theorem S_at_bit {w : Int32} {j : Nat} (h6 : P ≤ 6) (hj : j < 32) : B_bit (S_at S P w) j = (decide (j < P) && decide (S 1 j = w)) := by
  unfold S_at
  exact B_set_bit (by omega) hj
theorem B_known (hI : Inv i h) (v0 : Int32) : ∃ r h1 h2, wu_known v0 h = some (r, h1) ∧ mo_known v0 h1 = some (r, h2) ∧ Inv (i + 5) h2 := by
  refine B_call hI (fun P T K Y n S ev I r R M W => ?_)
  have h6 := W.1
  have h10 := W.2.1
  have h5 := W.2.2.1
  have hmo : ∀ h1, R_m (B_t0 h1) P T K Y S → mo_known v0 h1 = if B_01 (B_is v0 (2 + K)) = 0 then some (-1, B_t0 h1) else mo_known_29 px_F (S_at S P v0) 0 0 0 (B_t0 h1) := fun h1 M1 => by
    have e := mo_in0_eq (h := B_t0 h1) v0 (y := nI (2 + K)) rfl (by omega)
    have e2 : px_c 1 + (B_t0 h1) 51 2 = nI (2 + K) - px_c 1 := by
      rw [M1.1.2.2.1, bc_1, nI_add, pk_sub (by omega)]
      congr 1
      omega
    unfold mo_known
    rw [bc_0, bc_m1]
    show px_bind (mo_isPlace v0 (B_t0 h1)) _ = _
    unfold mo_isPlace
    rw [e2, e, B_bind, B_01_bz, B_bind]
    split
    · rfl
    · rw [mo_peopleAt_s _ M1 W, B_bind]
  cases hx : B_is v0 (2 + K) with
  | false =>
    refine ⟨-1, h, B_t0 h, ?_, ?_, B_qr I r⟩
    · unfold wu_known
      rw [rv_hasPlace_s _ R W, hx, B_bind, if_pos (show B_01 false = 0 from rfl), bc_m1]
    · rw [hmo h M, hx, if_pos (show B_01 false = 0 from rfl)]
  | true =>
    let gc : Nat → Int32 × Int32 → Int32 × Int32 := fun p b => (if decide (S 1 p = v0) = true then b.1 ||| S_kby S T p else b.1, if decide (S 1 p = v0) = true then b.2 &&& S_kby S T p else b.2)
    let gm : Nat → Int32 × Int32 → Int32 × Int32 := fun t b => (b.1 ||| (if decide (¬ (S 9 t &&& S_at S P v0) = 0) = true then nI 1 <<< (nI t &&& 31) else 0), b.2 ||| (if (!decide (S_at S P v0 = 0) && decide (S_at S P v0 &&& (S 9 t ^^^ -1) = 0)) = true then nI 1 <<< (nI t &&& 31) else 0))
    have hsc : ∀ m k (x y : Int32), B_fold gc k m (x, y) = (B_fold (fun p a => if decide (S 1 p = v0) = true then a ||| S_kby S T p else a) k m x, B_fold (fun p a => if decide (S 1 p = v0) = true then a &&& S_kby S T p else a) k m y) := by
      intro m
      induction m with
      | zero => intro k x y; rfl
      | succ m ih => intro k x y; exact ih (k + 1) _ _
    have hsm : ∀ m k (x y : Int32), B_fold gm k m (x, y) = (B_fold (fun t a => a ||| (if decide (¬ (S 9 t &&& S_at S P v0) = 0) = true then nI 1 <<< (nI t &&& 31) else 0)) k m x, B_fold (fun t a => a ||| (if (!decide (S_at S P v0 = 0) && decide (S_at S P v0 &&& (S 9 t ^^^ -1) = 0)) = true then nI 1 <<< (nI t &&& 31) else 0)) k m y) := by
      intro m
      induction m with
      | zero => intro k x y; rfl
      | succ m ih => intro k x y; exact ih (k + 1) _ _
    have e1 : (B_fold gc 0 P (0, -1)).1 = (B_fold gm 0 T (0, 0)).1 := by
      rw [hsc, hsm]
      refine B_ext (fun k hk => ?_)
      show B_bit (B_fold (fun p a => if decide (S 1 p = v0) = true then a ||| S_kby S T p else a) 0 P 0) k = B_bit (B_set (fun t => decide (¬ (S 9 t &&& S_at S P v0) = 0)) T) k
      rw [B_orf (fun p => decide (S 1 p = v0)) (fun p => S_kby S T p), B_bit_0, Bool.false_or, B_set_bit (by omega) hk]
      apply Bool.eq_iff_iff.mpr
      rw [B_any_iff, Bool.and_eq_true, decide_eq_true_eq, decide_eq_true_eq]
      constructor
      · rintro ⟨j, -, hj, q⟩
        rw [Bool.and_eq_true, decide_eq_true_eq] at q
        have q2 := q.2
        unfold S_kby at q2
        rw [B_set_bit (by omega) hk, Bool.and_eq_true, decide_eq_true_eq] at q2
        refine ⟨q2.1, fun w => ?_⟩
        have := (B_eq0 _).mp w j (by omega)
        rw [B_bit_and, q2.2, S_at_bit h6 (by omega), decide_eq_true (by omega : j < P), decide_eq_true q.1] at this
        cases this
      · rintro ⟨hk2, q⟩
        have : ∃ j, j < 32 ∧ B_bit (S 9 k &&& S_at S P v0) j = true := by
          apply Classical.byContradiction
          intro w
          refine q ((B_eq0 _).mpr (fun j hj => ?_))
          cases hb : B_bit (S 9 k &&& S_at S P v0) j with
          | false => rfl
          | true => exact absurd ⟨j, hj, hb⟩ w
        obtain ⟨j, hj, hb⟩ := this
        rw [B_bit_and, S_at_bit h6 hj, Bool.and_eq_true, Bool.and_eq_true, decide_eq_true_eq, decide_eq_true_eq] at hb
        refine ⟨j, by omega, by omega, ?_⟩
        rw [decide_eq_true hb.2.2, Bool.true_and]
        unfold S_kby
        rw [B_set_bit (by omega) hk, decide_eq_true hk2, hb.1]
        rfl
    have e2 : (if S_at S P v0 = 0 then (0 : Int32) else (B_fold gc 0 P (0, -1)).2) = (B_fold gm 0 T (0, 0)).2 := by
      rw [hsc, hsm]
      by_cases q0 : S_at S P v0 = 0
      · rw [if_pos q0]
        refine B_ext (fun k hk => ?_)
        show B_bit 0 k = B_bit (B_set (fun t => !decide (S_at S P v0 = 0) && decide (S_at S P v0 &&& (S 9 t ^^^ -1) = 0)) T) k
        rw [B_bit_0, B_set_bit (by omega) hk, decide_eq_true q0]
        simp
      · rw [if_neg q0]
        refine B_ext (fun k hk => ?_)
        show B_bit (B_fold (fun p a => if decide (S 1 p = v0) = true then a &&& S_kby S T p else a) 0 P (-1)) k = B_bit (B_set (fun t => !decide (S_at S P v0 = 0) && decide (S_at S P v0 &&& (S 9 t ^^^ -1) = 0)) T) k
        rw [B_andf (fun p => decide (S 1 p = v0)) (fun p => S_kby S T p), B_bit_m1 k hk, Bool.true_and, B_set_bit (by omega) hk, decide_eq_false q0, Bool.not_false, Bool.true_and]
        have : ∃ j, j < 32 ∧ B_bit (S_at S P v0) j = true := by
          apply Classical.byContradiction
          intro w
          refine q0 ((B_eq0 _).mpr (fun j hj => ?_))
          cases hb : B_bit (S_at S P v0) j with
          | false => rfl
          | true => exact absurd ⟨j, hj, hb⟩ w
        obtain ⟨j0, hj0, hb0⟩ := this
        rw [S_at_bit h6 hj0, Bool.and_eq_true, decide_eq_true_eq, decide_eq_true_eq] at hb0
        apply Bool.eq_iff_iff.mpr
        rw [B_all_iff, Bool.and_eq_true, decide_eq_true_eq, decide_eq_true_eq]
        constructor
        · intro w
          have hk2 : k < T := by
            have := w j0 (by omega) (by omega)
            rw [decide_eq_true hb0.2, Bool.not_true, Bool.false_or] at this
            unfold S_kby at this
            rw [B_set_bit (by omega) hk, Bool.and_eq_true, decide_eq_true_eq] at this
            exact this.1
          refine ⟨hk2, (B_eq0 _).mpr (fun j hj => ?_)⟩
          rw [B_bit_and, S_at_bit h6 hj, B_bit_not _ hj]
          by_cases c1 : j < P
          · by_cases c2 : S 1 j = v0
            · have := w j (by omega) (by omega)
              rw [decide_eq_true c2, Bool.not_true, Bool.false_or] at this
              unfold S_kby at this
              rw [B_set_bit (by omega) hk, Bool.and_eq_true] at this
              rw [this.2]
              simp
            · rw [decide_eq_false c2]
              simp
          · rw [decide_eq_false c1]
            simp
        · rintro ⟨hk2, w⟩ j - hj
          by_cases c2 : S 1 j = v0
          · have := (B_eq0 _).mp w j (by omega)
            rw [B_bit_and, S_at_bit h6 (by omega), B_bit_not _ (by omega), decide_eq_true (by omega : j < P), decide_eq_true c2] at this
            rw [decide_eq_true c2, Bool.not_true, Bool.false_or]
            unfold S_kby
            rw [B_set_bit (by omega) hk, decide_eq_true hk2]
            simpa using this
          · rw [decide_eq_false c2]
            rfl
    refine B_ask1 (x := (B_fold gm 0 T (0, 0)).2) (v := (B_fold gm 0 T (0, 0)).1) I ?_ (fun h1 M1 => ?_)
    · unfold wu_known
      rw [rv_hasPlace_s _ R W, hx, B_bind, if_neg (by decide), bc_0, bc_m1]
      have eL := B_loop0 (fun n b k => wu_known_20 n v0 b.1 b.2 (nI k) h) P gc (fun b => px_bind (tl_tell (if S_at S P v0 = 0 then 0 else b.2) h) fun _ h2 => some (b.1, h2)) (by omega) (fun n b k hk => by
        have e5 := R.2.2.2.2.2.1 k hk
        simp (disch := omega) only [wu_known_20, wu_known_72, R.1, hs_knownBy_s (show k < 32 by omega) R W, e5, bn_le, bn_lt, bn_eq, bn_le0, bn_0le, bn_lt0, bn_0lt, bn_eq0, bn_0eq, bn_eqm, bn_mlt0, bn_0lem, bn_m0, bn_mle0, bn_ltm, bn_mlt, bn_mle, bn_lem, nI_add, pk_mul, pk_sub, nI_clamp, B_n_nI, bn_0, bc_0, bc_m1, bc_1, bc_2, bc_3, bc_4, bc_5, bc_6, bc_7, bc_8, bc_9, bc_10, bc_11, bc_12, bc_13, bc_16, bc_22, bc_24, bc_32, bc_40, bc_41, bc_42, bc_43, bc_44, bc_45, bc_47, bc_48, bc_52, bc_57, bc_58, bc_59, bc_60, bc_61, bc_62, bc_63, bc_64, bc_76, bc_80, bc_97, bc_99, bc_105, bc_106, bc_107, bc_108, bc_109, bc_110, bc_111, bc_112, bc_113, bc_114, bc_115, bc_116, bc_117, bc_118, bc_119, bc_120, bc_121, bc_122, bc_255, bc_256, bc_400, bc_572, bc_999, bc_1024, bc_10000, bc_m2, bc_m3, bc_m8, bc_m100, bc_m200, B_bind, if_neg, wa_4, wz_4, wa_5, wz_5, wa_6, wz_6, wa_7, wz_7, wa_8, wz_8, wa_9, wz_9, wa_10, wz_10, wa_11, wz_11, wa_12, wz_12, wa_13, wz_13, wa_15, wz_15, wa_16, wz_16, wa_18, wz_18, wa_19, wz_19, wa_20, wz_20, wa_23, wz_23, wa_24, wz_24, wa_26, wz_26, wa_27, wz_27, wa_28, wz_28, wa_29, wz_29, wa_30, wz_30, wa_31, wz_31, wa_32, wz_32, wa_34, wz_34, wa_35, wz_35, wa_36, wz_36, wa_37, wz_37, wa_38, wz_38, wa_39, wz_39, wa_40, wz_40, wa_42, wz_42, wa_44, wz_44, wa_46, wz_46, wa_48, wz_48, wa_49, wz_49, wa_50, wz_50, gc]
        by_cases q : S 1 k = v0
        · simp [q]
        · simp [q]) (fun n b => by
        simp (disch := omega) only [wu_known_20, wu_known_98, R.1, hs_peopleAt_s _ R W, bn_le, bn_lt, bn_eq, bn_le0, bn_0le, bn_lt0, bn_0lt, bn_eq0, bn_0eq, bn_eqm, bn_mlt0, bn_0lem, bn_m0, bn_mle0, bn_ltm, bn_mlt, bn_mle, bn_lem, nI_add, pk_mul, pk_sub, nI_clamp, B_n_nI, bn_0, bc_0, bc_m1, bc_1, bc_2, bc_3, bc_4, bc_5, bc_6, bc_7, bc_8, bc_9, bc_10, bc_11, bc_12, bc_13, bc_16, bc_22, bc_24, bc_32, bc_40, bc_41, bc_42, bc_43, bc_44, bc_45, bc_47, bc_48, bc_52, bc_57, bc_58, bc_59, bc_60, bc_61, bc_62, bc_63, bc_64, bc_76, bc_80, bc_97, bc_99, bc_105, bc_106, bc_107, bc_108, bc_109, bc_110, bc_111, bc_112, bc_113, bc_114, bc_115, bc_116, bc_117, bc_118, bc_119, bc_120, bc_121, bc_122, bc_255, bc_256, bc_400, bc_572, bc_999, bc_1024, bc_10000, bc_m2, bc_m3, bc_m8, bc_m100, bc_m200, B_bind, if_pos]
        by_cases q : S_at S P v0 = 0
        · simp [q]
        · simp [q]) (0, -1)
      rw [nI_0] at eL
      rw [← e1, ← e2]
      exact eL
    · rw [hmo h1 M1, hx, if_neg (by decide)]
      have eL := B_loop0 (fun n b k => mo_known_29 n (S_at S P v0) b.1 b.2 (nI k) (B_t0 h1)) T gm (fun b => px_bind (mo_tell b.2 (px_w (B_t0 h1) 51 13 0)) fun _ h2 => some (b.1, h2)) (by omega) (fun n b k hk => by
        have a9 := M1.2.2.2.2.2.2 k hk
        simp (disch := omega) only [mo_known_29, mo_known_62, mo_known_94, mo_known_95, M1.1.2.1, a9, bn_le, bn_lt, bn_eq, bn_le0, bn_0le, bn_lt0, bn_0lt, bn_eq0, bn_0eq, bn_eqm, bn_mlt0, bn_0lem, bn_m0, bn_mle0, bn_ltm, bn_mlt, bn_mle, bn_lem, nI_add, pk_mul, pk_sub, nI_clamp, B_n_nI, bn_0, bc_0, bc_m1, bc_1, bc_2, bc_3, bc_4, bc_5, bc_6, bc_7, bc_8, bc_9, bc_10, bc_11, bc_12, bc_13, bc_16, bc_22, bc_24, bc_32, bc_40, bc_41, bc_42, bc_43, bc_44, bc_45, bc_47, bc_48, bc_52, bc_57, bc_58, bc_59, bc_60, bc_61, bc_62, bc_63, bc_64, bc_76, bc_80, bc_97, bc_99, bc_105, bc_106, bc_107, bc_108, bc_109, bc_110, bc_111, bc_112, bc_113, bc_114, bc_115, bc_116, bc_117, bc_118, bc_119, bc_120, bc_121, bc_122, bc_255, bc_256, bc_400, bc_572, bc_999, bc_1024, bc_10000, bc_m2, bc_m3, bc_m8, bc_m100, bc_m200, B_bind, B_ift, if_neg, po_52, pz_52, po_53, pz_53, po_54, pz_54, po_55, pz_55, po_56, pz_56, po_57, pz_57, po_58, pz_58, po_59, pz_59, po_60, pz_60, po_61, pz_61, po_62, pz_62, po_63, pz_63, po_64, pz_64, po_65, pz_65, po_66, pz_66, po_67, pz_67, po_68, pz_68, po_69, pz_69, po_70, pz_70, po_71, pz_71, po_72, pz_72, po_73, pz_73, po_74, pz_74, po_75, pz_75, po_76, pz_76, po_77, pz_77, po_78, pz_78, po_79, pz_79, po_80, pz_80, po_81, pz_81, gm]
        by_cases q : S_at S P v0 = 0
        · by_cases q2 : S 9 k &&& S_at S P v0 = 0
          · simp [q]
          · rw [q] at q2
            exact absurd (by
              refine B_ext (fun j hj => ?_)
              rw [B_bit_and, B_bit_0, Bool.and_false]) q2
        · generalize S_at S P v0 &&& (S 9 k ^^^ -1) = w
          by_cases q2 : S 9 k &&& S_at S P v0 = 0 <;> by_cases q3 : w = 0 <;> simp [q, q2, q3]) (fun n b => by
        simp (disch := omega) only [mo_known_29, M1.1.2.1, bn_le, bn_lt, bn_eq, bn_le0, bn_0le, bn_lt0, bn_0lt, bn_eq0, bn_0eq, bn_eqm, bn_mlt0, bn_0lem, bn_m0, bn_mle0, bn_ltm, bn_mlt, bn_mle, bn_lem, nI_add, pk_mul, pk_sub, nI_clamp, B_n_nI, bn_0, bc_0, bc_m1, bc_1, bc_2, bc_3, bc_4, bc_5, bc_6, bc_7, bc_8, bc_9, bc_10, bc_11, bc_12, bc_13, bc_16, bc_22, bc_24, bc_32, bc_40, bc_41, bc_42, bc_43, bc_44, bc_45, bc_47, bc_48, bc_52, bc_57, bc_58, bc_59, bc_60, bc_61, bc_62, bc_63, bc_64, bc_76, bc_80, bc_97, bc_99, bc_105, bc_106, bc_107, bc_108, bc_109, bc_110, bc_111, bc_112, bc_113, bc_114, bc_115, bc_116, bc_117, bc_118, bc_119, bc_120, bc_121, bc_122, bc_255, bc_256, bc_400, bc_572, bc_999, bc_1024, bc_10000, bc_m2, bc_m3, bc_m8, bc_m100, bc_m200, if_pos]) (0, 0)
      rw [nI_0] at eL
      exact eL
end ASK
