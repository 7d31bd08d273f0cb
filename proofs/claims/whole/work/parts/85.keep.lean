/-! Layer B: undo, keep, again -/
section KEEP
variable {i : Nat} {h : pH} {P T K Y U s : Nat} {S Z : pH}
/-- the row of what changes, copied from elsewhere -/
theorem B_cp_R {f : Nat → Int32} (q : Q_m f 0 P T Z) (h6 : P ≤ 6) (h10 : T ≤ 10) : R_a (B_cp h f 52 0) 52 P T Z := by
  obtain ⟨q1, q2, q4, q8, q6, q9⟩ := q
  have e : ∀ k, k < 52 → B_cp h f 52 0 52 k = f (0 + k) := fun k hk => by
    unfold B_cp
    rw [if_pos ⟨rfl, by omega, by omega⟩, Nat.zero_add, Nat.sub_zero]
  refine ⟨fun p hp => ?_, fun p hp => ?_, fun t ht => ?_, fun t ht => ?_, fun t ht => ?_, fun t ht => ?_⟩
  · rw [e p (by omega), q1 p hp]
  · rw [e (6 + p) (by omega), ← Nat.add_assoc, q2 p hp]
  · rw [e (12 + t) (by omega), ← Nat.add_assoc, q4 t ht]
  · rw [e (22 + t) (by omega), ← Nat.add_assoc, q8 t ht]
  · rw [e (32 + t) (by omega), ← Nat.add_assoc, q6 t ht]
  · rw [e (42 + t) (by omega), ← Nat.add_assoc, q9 t ht]
theorem B_cp_go {f : Nat → Int32} (h : pH) {g : Nat → pH → pH} (hg : ∀ k hh, k < 52 → (∀ a, a ≠ 52 → hh a = h a) → g k hh = px_w hh 52 k (f k)) : B_fold g 0 52 h = B_cp h f 52 0 ∧ True := by
  refine ⟨?_, trivial⟩
  have hI := B_fold_inv (g := g) (fun k h' => ∀ a j, h' a j = if a = 52 ∧ j < k then f j else h a j) 52 0 h (fun a j => by rw [if_neg (by omega)]) (fun k h' _ hk i1 => by
    intro a j
    rw [hg k h' (by omega) (fun a ha => funext fun j => by rw [i1 a j, if_neg (fun q => ha q.1)])]
    unfold px_w
    by_cases q : a = 52 ∧ j = k
    · rw [if_pos q, if_pos ⟨q.1, by omega⟩, q.2]
    · rw [if_neg q, i1]
      by_cases w : a = 52 ∧ j < k
      · rw [if_pos w, if_pos ⟨w.1, by omega⟩]
      · rw [if_neg w, if_neg (fun w2 => ?_)]
        by_cases jk : j = k
        · exact q ⟨w2.1, jk⟩
        · exact w ⟨w2.1, by omega⟩)
  funext a j
  rw [hI a j]
  unfold B_cp
  by_cases q : a = 52 ∧ j < 0 + 52
  · rw [if_pos q, if_pos ⟨q.1, by omega, by omega⟩, Nat.sub_zero]
  · rw [if_neg q, if_neg (fun w => q ⟨w.1, w.2.2⟩)]
theorem mo_undo_loop {V : Nat} (hV : V < 12) (hv : h 51 35 = nI V) : mo_undo_26 px_F 0 h = some (nI V, B_cp h (fun k => h 66 (52 * V + k)) 52 0) := by
  have e := B_loopI (fun n h k => mo_undo_26 n (nI k) h) 52 (fun k h => px_w h 52 k (h 66 (52 * V + k))) (fun h => some (nI V, h)) (fun _ h => h 51 35 = nI V) (fun n h k hk hh => ⟨by
    simp (disch := omega) only [mo_undo_26, hh, bn_le, bn_lt, bn_eq, bn_le0, bn_0le, bn_lt0, bn_0lt, bn_eq0, bn_0eq, bn_eqm, bn_mlt0, bn_0lem, bn_m0, bn_mle0, bn_ltm, bn_mlt, bn_mle, bn_lem, nI_add, pk_mul, pk_sub, nI_clamp, B_n_nI, bn_0, bc_0, bc_m1, bc_1, bc_2, bc_3, bc_4, bc_5, bc_6, bc_7, bc_8, bc_9, bc_10, bc_11, bc_12, bc_13, bc_16, bc_22, bc_24, bc_32, bc_40, bc_41, bc_42, bc_43, bc_44, bc_45, bc_47, bc_48, bc_52, bc_57, bc_58, bc_59, bc_60, bc_61, bc_62, bc_63, bc_64, bc_76, bc_80, bc_97, bc_99, bc_105, bc_106, bc_107, bc_108, bc_109, bc_110, bc_111, bc_112, bc_113, bc_114, bc_115, bc_116, bc_117, bc_118, bc_119, bc_120, bc_121, bc_122, bc_255, bc_256, bc_400, bc_572, bc_999, bc_1024, bc_10000, bc_m2, bc_m3, bc_m8, bc_m100, bc_m200, B_bind, B_bind_if, B_ift, B_bz0, B_bz1, B_01_bz, B_01_e0, B_01_e1, if_pos, if_neg, reduceIte, Bool.false_eq_true, Bool.true_eq_false, po_52, pz_52, po_53, pz_53, po_54, pz_54, po_55, pz_55, po_56, pz_56, po_57, pz_57, po_58, pz_58, po_59, pz_59, po_60, pz_60, po_61, pz_61, po_62, pz_62, po_63, pz_63, po_64, pz_64, po_65, pz_65, po_66, pz_66, po_67, pz_67, po_68, pz_68, po_69, pz_69, po_70, pz_70, po_71, pz_71, po_72, pz_72, po_73, pz_73, po_74, pz_74, po_75, pz_75, po_76, pz_76, po_77, pz_77, po_78, pz_78, po_79, pz_79, po_80, pz_80, po_81, pz_81], by
    try dsimp only
    rw [B_w_cell _ _ _ (by decide)]
    exact hh⟩) (fun n h hh => by
    simp (disch := omega) only [mo_undo_26, hh, bn_le, bn_lt, bn_eq, bn_le0, bn_0le, bn_lt0, bn_0lt, bn_eq0, bn_0eq, bn_eqm, bn_mlt0, bn_0lem, bn_m0, bn_mle0, bn_ltm, bn_mlt, bn_mle, bn_lem, nI_add, pk_mul, pk_sub, nI_clamp, B_n_nI, bn_0, bc_0, bc_m1, bc_1, bc_2, bc_3, bc_4, bc_5, bc_6, bc_7, bc_8, bc_9, bc_10, bc_11, bc_12, bc_13, bc_16, bc_22, bc_24, bc_32, bc_40, bc_41, bc_42, bc_43, bc_44, bc_45, bc_47, bc_48, bc_52, bc_57, bc_58, bc_59, bc_60, bc_61, bc_62, bc_63, bc_64, bc_76, bc_80, bc_97, bc_99, bc_105, bc_106, bc_107, bc_108, bc_109, bc_110, bc_111, bc_112, bc_113, bc_114, bc_115, bc_116, bc_117, bc_118, bc_119, bc_120, bc_121, bc_122, bc_255, bc_256, bc_400, bc_572, bc_999, bc_1024, bc_10000, bc_m2, bc_m3, bc_m8, bc_m100, bc_m200, B_bind, B_bind_if, B_ift, B_bz0, B_bz1, B_01_bz, B_01_e0, B_01_e1, if_pos, if_neg, reduceIte, Bool.false_eq_true, Bool.true_eq_false]) 52 0 px_F h (by omega) (px_F_lt (by omega)) hv
  rw [← nI_0, e, (B_cp_go (f := fun k => h 66 (52 * V + k)) h (fun k hh _ h1 => by rw [h1 66 (by decide)])).1]
theorem mo_again_loop {q : Nat} (hq : q < 2) : mo_again_40 px_F (nI q) 0 h = some (nI 1, px_w (B_cp h (fun k => h 79 (52 * q + k)) 52 0) 51 35 0) := by
  have e := B_loop0 (fun n h k => mo_again_40 n (nI q) (nI k) h) 52 (fun k h => px_w h 52 k (h 79 (52 * q + k))) (fun h => some (nI 1, px_w h 51 35 0)) (by omega) (fun n h k hk => by
    simp (disch := omega) only [mo_again_40, bn_le, bn_lt, bn_eq, bn_le0, bn_0le, bn_lt0, bn_0lt, bn_eq0, bn_0eq, bn_eqm, bn_mlt0, bn_0lem, bn_m0, bn_mle0, bn_ltm, bn_mlt, bn_mle, bn_lem, nI_add, pk_mul, pk_sub, nI_clamp, B_n_nI, bn_0, bc_0, bc_m1, bc_1, bc_2, bc_3, bc_4, bc_5, bc_6, bc_7, bc_8, bc_9, bc_10, bc_11, bc_12, bc_13, bc_16, bc_22, bc_24, bc_32, bc_40, bc_41, bc_42, bc_43, bc_44, bc_45, bc_47, bc_48, bc_52, bc_57, bc_58, bc_59, bc_60, bc_61, bc_62, bc_63, bc_64, bc_76, bc_80, bc_97, bc_99, bc_105, bc_106, bc_107, bc_108, bc_109, bc_110, bc_111, bc_112, bc_113, bc_114, bc_115, bc_116, bc_117, bc_118, bc_119, bc_120, bc_121, bc_122, bc_255, bc_256, bc_400, bc_572, bc_999, bc_1024, bc_10000, bc_m2, bc_m3, bc_m8, bc_m100, bc_m200, B_bind, B_bind_if, B_ift, B_bz0, B_bz1, B_01_bz, B_01_e0, B_01_e1, if_pos, if_neg, reduceIte, Bool.false_eq_true, Bool.true_eq_false, po_52, pz_52, po_53, pz_53, po_54, pz_54, po_55, pz_55, po_56, pz_56, po_57, pz_57, po_58, pz_58, po_59, pz_59, po_60, pz_60, po_61, pz_61, po_62, pz_62, po_63, pz_63, po_64, pz_64, po_65, pz_65, po_66, pz_66, po_67, pz_67, po_68, pz_68, po_69, pz_69, po_70, pz_70, po_71, pz_71, po_72, pz_72, po_73, pz_73, po_74, pz_74, po_75, pz_75, po_76, pz_76, po_77, pz_77, po_78, pz_78, po_79, pz_79, po_80, pz_80, po_81, pz_81]) (fun n h => by
    simp (disch := omega) only [mo_again_40, mo_again_74, bn_le, bn_lt, bn_eq, bn_le0, bn_0le, bn_lt0, bn_0lt, bn_eq0, bn_0eq, bn_eqm, bn_mlt0, bn_0lem, bn_m0, bn_mle0, bn_ltm, bn_mlt, bn_mle, bn_lem, nI_add, pk_mul, pk_sub, nI_clamp, B_n_nI, bn_0, bc_0, bc_m1, bc_1, bc_2, bc_3, bc_4, bc_5, bc_6, bc_7, bc_8, bc_9, bc_10, bc_11, bc_12, bc_13, bc_16, bc_22, bc_24, bc_32, bc_40, bc_41, bc_42, bc_43, bc_44, bc_45, bc_47, bc_48, bc_52, bc_57, bc_58, bc_59, bc_60, bc_61, bc_62, bc_63, bc_64, bc_76, bc_80, bc_97, bc_99, bc_105, bc_106, bc_107, bc_108, bc_109, bc_110, bc_111, bc_112, bc_113, bc_114, bc_115, bc_116, bc_117, bc_118, bc_119, bc_120, bc_121, bc_122, bc_255, bc_256, bc_400, bc_572, bc_999, bc_1024, bc_10000, bc_m2, bc_m3, bc_m8, bc_m100, bc_m200, B_bind, B_bind_if, B_ift, B_bz0, B_bz1, B_01_bz, B_01_e0, B_01_e1, if_pos, if_neg, reduceIte, Bool.false_eq_true, Bool.true_eq_false]) h
  rw [← nI_0, e, (B_cp_go (f := fun k => h 79 (52 * q + k)) h (fun k hh _ h1 => by rw [h1 79 (by decide)])).1, nI_0]
theorem B_undo (hI : Inv i h) : ∃ r h1 h2, wu_undo h = some (r, h1) ∧ mo_undo h1 = some (r, h2) ∧ Inv (i + 5) h2 := by
  obtain ⟨P, T, K, Y, n, S, ev, I, r⟩ := hI
  obtain ⟨U, s, u⟩ : ∃ U s, I_us h P T K U s := I.2.2.2.2.1
  have W := I.2.2.1
  have h6 := W.1
  have h10 := W.2.1
  have u' := u
  obtain ⟨u1, u2, u3, u4, u5, u6⟩ := u
  by_cases hU : U = 0
  · subst hU
    rw [nI_0] at u3 u5
    refine ⟨-1, h, B_t0 h, ?_, ?_, B_qr I r⟩
    · unfold wu_undo me_takeBack
      rw [u3, if_pos rfl, bc_0, B_bz0, B_bind, if_pos rfl, bc_m1]
      rfl
    · unfold mo_undo
      rw [bc_0]
      show (if (B_t0 h) 51 35 = 0 then some (px_c (-1), B_t0 h) else _) = _
      rw [B_t0_at h (by decide), u5, if_pos rfl, bc_m1]
  · obtain ⟨V, rfl⟩ : ∃ V, U = V + 1 := ⟨U - 1, by omega⟩
    obtain ⟨Z, z1, z2, z3⟩ := u6 V (by omega)
    have es : (s + 13 - (V + 1) + V) % 13 = (s + 12) % 13 := by omega
    rw [es] at z2
    generalize hHH : px_w (px_w h 41 3 (nI ((s + 12) % 13))) 41 2 (nI V) = hh at *
    have eh : ∀ a, a ≠ 41 → hh a = h a := fun a ha => by rw [← hHH, B_w_cell _ _ _ ha, B_w_cell _ _ _ ha]
    have Rh : R_c hh P T K Y S := I.1.cs (fun a h1 h2 => eh a (by omega))
    obtain ⟨l1, l2, l3⟩ := B_lo_inv (h := hh) (b := 52 * ((s + 12) % 13))
    have RL := B_lo_R (Z := Z) Rh W (by rw [eh 42 (by decide)]; exact z2)
    generalize hL : B_lo (52 * ((s + 12) % 13)) hh = hl at *
    have etake : me_takeBack h = some (nI 1, hl) := by
      have e := pk_rem (a := s + 13 - 1) (d := 13) (by omega) (by omega) (by omega)
      have e0 : ¬ nI 13 = 0 := by decide
      have en : ¬ nI (V + 1) = 0 := nI_ne0 (by omega) (by omega)
      have esub : nI (s + 13) - nI 1 = nI (s + 13 - 1) := pk_sub (by omega)
      have e12 : s + 13 - 1 = s + 12 := by omega
      unfold me_takeBack
      rw [u3, if_neg en, bc_13, if_neg e0, u4, bc_1, nI_add, esub, e, e12]
      show px_bind (hs_load 42 ((px_w (px_w h 41 3 (nI ((s + 12) % 13))) 41 2 ((px_w h 41 3 (nI ((s + 12) % 13))) 41 2 - nI 1)) 41 3 * px_c 52) (px_w (px_w h 41 3 (nI ((s + 12) % 13))) 41 2 ((px_w h 41 3 (nI ((s + 12) % 13))) 41 2 - nI 1))) _ = _
      have e2 : (px_w h 41 3 (nI ((s + 12) % 13))) 41 2 - nI 1 = nI V := by
        rw [B_w_at, if_neg (by decide), u3, pk_sub (by omega)]
        rfl
      rw [e2, hHH, ← hHH, B_w_at, if_neg (by decide), B_w_same, bc_52, pk_mul, Nat.mul_comm, hs_load_s (by omega), B_bind, hHH, hL, B_bz1]
    have e412 : hl 41 2 = nI V := by rw [l1 41 (by decide) (by decide) (by decide) (by decide) (by decide) (by decide), ← hHH, B_w_same]
    have e413 : hl 41 3 = nI ((s + 12) % 13) := by rw [l1 41 (by decide) (by decide) (by decide) (by decide) (by decide) (by decide), ← hHH, B_w_at, if_neg (by decide), B_w_same]
    have e411 : hl 41 1 = h 41 1 := by rw [l1 41 (by decide) (by decide) (by decide) (by decide) (by decide) (by decide), ← hHH, B_w_at, if_neg (by decide), B_w_at, if_neg (by decide)]
    have ehl : ∀ a, a ≠ 5 → a ≠ 6 → a ≠ 8 → a ≠ 10 → a ≠ 12 → a ≠ 13 → a ≠ 41 → hl a = h a := fun a g1 g2 g3 g4 g5 g6 g7 => by rw [l1 a g1 g2 g3 g4 g5 g6, eh a g7]
    have e35 : (px_w (B_t0 hl) 51 35 (nI V)) 51 35 = nI V := B_w_same _ _ _ _
    have hloop := mo_undo_loop (h := px_w (B_t0 hl) 51 35 (nI V)) (V := V) (by omega) e35
    have e66 : (fun k => (px_w (B_t0 hl) 51 35 (nI V)) 66 (52 * V + k)) = fun k => h 66 (52 * V + k) := by
      funext k
      rw [B_w_cell _ _ _ (by decide), B_t0_row _ (by decide), ehl 66 (by decide) (by decide) (by decide) (by decide) (by decide) (by decide) (by decide)]
    rw [e66] at hloop
    have A2 : R_a (B_cp (px_w (B_t0 hl) 51 35 (nI V)) (fun k => h 66 (52 * V + k)) 52 0) 52 P T Z := B_cp_R (z3.ext h6 h10 (fun k hk => by rw [Nat.zero_add])) h6 h10
    refine ⟨nI V, hl, B_cp (px_w (B_t0 hl) 51 35 (nI V)) (fun k => h 66 (52 * V + k)) 52 0, ?_, ?_, ?_⟩
    · unfold wu_undo wu_undo_25
      rw [etake, B_bind, if_neg (by decide), e412]
    · unfold mo_undo mo_undo_24
      rw [bc_0]
      have e35' : (B_t0 hl) 51 35 = nI (V + 1) := by rw [B_t0_at _ (by decide), ehl 51 (by decide) (by decide) (by decide) (by decide) (by decide) (by decide) (by decide), u5]
      show (if (B_t0 hl) 51 35 = 0 then _ else mo_undo_26 px_F 0 (px_w (B_t0 hl) 51 35 ((B_t0 hl) 51 35 - px_c 1))) = _
      rw [e35', if_neg (nI_ne0 (by omega) (by omega)), bc_1, pk_sub (by omega)]
      exact hloop
    · have f : ∀ a, a ≠ 5 → a ≠ 6 → a ≠ 8 → a ≠ 10 → a ≠ 12 → a ≠ 13 → a ≠ 41 → a ≠ 51 → a ≠ 52 → (B_cp (px_w (B_t0 hl) 51 35 (nI V)) (fun k => h 66 (52 * V + k)) 52 0) a = h a := fun a g1 g2 g3 g4 g5 g6 g7 g8 g9 => by rw [B_cp_ne g9, B_w_cell _ _ _ g8, B_t0_row _ g8, ehl a g1 g2 g3 g4 g5 g6 g7]
      have f51 : ∀ k, k ≠ 14 → k ≠ 35 → (B_cp (px_w (B_t0 hl) 51 35 (nI V)) (fun k => h 66 (52 * V + k)) 52 0) 51 k = h 51 k := fun k k1 k2 => by rw [B_cp_ne (by decide), B_w_at, if_neg k2, B_t0_at _ k1, ehl 51 (by decide) (by decide) (by decide) (by decide) (by decide) (by decide) (by decide)]
      have f41 : (B_cp (px_w (B_t0 hl) 51 35 (nI V)) (fun k => h 66 (52 * V + k)) 52 0) 41 = hl 41 := by rw [B_cp_ne (by decide), B_w_cell _ _ _ (by decide), B_t0_row _ (by decide)]
      have f5 : ∀ a, 3 ≤ a → a ≤ 15 → (B_cp (px_w (B_t0 hl) 51 35 (nI V)) (fun k => h 66 (52 * V + k)) 52 0) a = hl a := fun a h1 h2 => by rw [B_cp_ne (by omega), B_w_cell _ _ _ (by omega), B_t0_row _ (by omega)]
      have e35f : (B_cp (px_w (B_t0 hl) 51 35 (nI V)) (fun k => h 66 (52 * V + k)) 52 0) 51 35 = nI V := by rw [B_cp_ne (by decide), B_w_same]
      generalize (B_cp (px_w (B_t0 hl) 51 35 (nI V)) (fun k => h 66 (52 * V + k)) 52 0) = h2 at *
      obtain ⟨R, M, W, X, Vu, E, L⟩ := I
      refine ⟨P, T, K, Y, n, B_mix S Z, ev, ⟨RL.cs f5, ⟨(M.1.st (fun i k h1 h2 h4 h6 h8 h9 => ?_)).cs (fun k hk => f51 k (by omega) (by omega)) (fun a h1 h2 => f a (by omega) (by omega) (by omega) (by omega) (by omega) (by omega) (by omega) (by omega) (by omega)), ?_⟩, R_w_mix W z1, ?_, ⟨V, (s + 12) % 13, ?_⟩, ?_, ?_⟩, r.sm ?_ ?_ ?_ ?_⟩
      · unfold B_mix
        split
        · exact absurd rfl h1
        · exact absurd rfl h2
        · exact absurd rfl h4
        · exact absurd rfl h6
        · exact absurd rfl h8
        · exact absurd rfl h9
        · rfl
      · exact A2
      · unfold I_txt at *
        rw [f 1 (by decide) (by decide) (by decide) (by decide) (by decide) (by decide) (by decide) (by decide) (by decide), f 2 (by decide) (by decide) (by decide) (by decide) (by decide) (by decide) (by decide) (by decide) (by decide), f 58 (by decide) (by decide) (by decide) (by decide) (by decide) (by decide) (by decide) (by decide) (by decide), f51 11 (by decide) (by decide)]
        exact X
      · refine ⟨by omega, by omega, by rw [f41, e412], by rw [f41, e413], e35f, fun j hj => ?_⟩
        obtain ⟨Z', y1, y2, y3⟩ := u6 j (by omega)
        refine ⟨Z', y1, ?_, ?_⟩
        · rw [f 42 (by decide) (by decide) (by decide) (by decide) (by decide) (by decide) (by decide) (by decide) (by decide)]
          have : ((s + 12) % 13 + 13 - V + j) % 13 = (s + 13 - (V + 1) + j) % 13 := by omega
          rw [this]
          exact y2
        · rw [f 66 (by decide) (by decide) (by decide) (by decide) (by decide) (by decide) (by decide) (by decide) (by decide)]
          exact y3
      · have E' := E.up (show i ≤ i + 5 by omega)
        unfold I_kep at *
        rw [f41, e411, f51 60 (by decide) (by decide), f 80 (by decide) (by decide) (by decide) (by decide) (by decide) (by decide) (by decide) (by decide) (by decide), f 81 (by decide) (by decide) (by decide) (by decide) (by decide) (by decide) (by decide) (by decide) (by decide), f 42 (by decide) (by decide) (by decide) (by decide) (by decide) (by decide) (by decide) (by decide) (by decide), f 79 (by decide) (by decide) (by decide) (by decide) (by decide) (by decide) (by decide) (by decide) (by decide)]
        exact E'
      · unfold I_rul at *
        rw [f 17 (by decide) (by decide) (by decide) (by decide) (by decide) (by decide) (by decide) (by decide) (by decide), f 18 (by decide) (by decide) (by decide) (by decide) (by decide) (by decide) (by decide) (by decide) (by decide), f 63 (by decide) (by decide) (by decide) (by decide) (by decide) (by decide) (by decide) (by decide) (by decide), f51 26 (by decide) (by decide)]
        exact L
      · rw [f 45 (by decide) (by decide) (by decide) (by decide) (by decide) (by decide) (by decide) (by decide) (by decide)]
      · exact f 46 (by decide) (by decide) (by decide) (by decide) (by decide) (by decide) (by decide) (by decide) (by decide)
      · exact f51 13 (by decide) (by decide)
      · exact f 59 (by decide) (by decide) (by decide) (by decide) (by decide) (by decide) (by decide) (by decide) (by decide)
end KEEP
