/-! Layer B: what can be undone -/
theorem Q_c.ext {f f' : Nat → Int32} {b P T : Nat} {S : pH} (q : Q_c f b P T S) (h6 : P ≤ 6) (h10 : T ≤ 10) (e : ∀ k, k < 52 → f' (b + k) = f (b + k)) : Q_c f' b P T S := by
  obtain ⟨q1, q2, q4, q8, q6, q9⟩ := q
  refine ⟨fun p hp => ?_, fun p hp => ?_, fun t ht => ?_, fun t ht => ?_, fun t ht => ?_, fun t ht => ?_⟩
  · rw [e (2 * p) (by omega), q1 p hp]
  · have := e (2 * p + 1) (by omega)
    rw [← Nat.add_assoc] at this
    rw [this, q2 p hp]
  · have := e (12 + 4 * t) (by omega)
    rw [← Nat.add_assoc] at this
    rw [this, q4 t ht]
  · have := e (12 + 4 * t + 1) (by omega)
    rw [← Nat.add_assoc, ← Nat.add_assoc] at this
    rw [this, q8 t ht]
  · have := e (12 + 4 * t + 2) (by omega)
    rw [← Nat.add_assoc, ← Nat.add_assoc] at this
    rw [this, q6 t ht]
  · have := e (12 + 4 * t + 3) (by omega)
    rw [← Nat.add_assoc, ← Nat.add_assoc] at this
    rw [this, q9 t ht]
theorem Q_m.ext {f f' : Nat → Int32} {b b' P T : Nat} {S : pH} (q : Q_m f b P T S) (h6 : P ≤ 6) (h10 : T ≤ 10) (e : ∀ k, k < 52 → f' (b' + k) = f (b + k)) : Q_m f' b' P T S := by
  obtain ⟨q1, q2, q4, q8, q6, q9⟩ := q
  refine ⟨fun p hp => ?_, fun p hp => ?_, fun t ht => ?_, fun t ht => ?_, fun t ht => ?_, fun t ht => ?_⟩
  · rw [e p (by omega), q1 p hp]
  · have := e (6 + p) (by omega)
    rw [← Nat.add_assoc, ← Nat.add_assoc] at this
    rw [this, q2 p hp]
  · have := e (12 + t) (by omega)
    rw [← Nat.add_assoc, ← Nat.add_assoc] at this
    rw [this, q4 t ht]
  · have := e (22 + t) (by omega)
    rw [← Nat.add_assoc, ← Nat.add_assoc] at this
    rw [this, q8 t ht]
  · have := e (32 + t) (by omega)
    rw [← Nat.add_assoc, ← Nat.add_assoc] at this
    rw [this, q6 t ht]
  · have := e (42 + t) (by omega)
    rw [← Nat.add_assoc, ← Nat.add_assoc] at this
    rw [this, q9 t ht]
section UND
variable {h : pH} {P T K Y a U s : Nat} {S Z : pH}
/-- the slots: U of them count, s is the next -/
def I_us (h : pH) (P T K U s : Nat) : Prop := U ≤ 12 ∧ s < 13 ∧ h 41 2 = nI U ∧ h 41 3 = nI s ∧ h 51 35 = nI U ∧ ∀ j, j < U → ∃ Z, R_wm P T K Z ∧ Q_c (h 42) (52 * ((s + 13 - U + j) % 13)) P T Z ∧ Q_m (h 66) (52 * j) P T Z
theorem me_stage_s (I : I_us h P T K U s) : me_stage h = some (0, B_sv (52 * s) h) := by
  obtain ⟨u1, u2, u3, u4, u5, -⟩ := I
  unfold me_stage
  simp (disch := omega) only [u4, bn_le, bn_lt, bn_eq, bn_le0, bn_0le, bn_lt0, bn_0lt, bn_eq0, bn_0eq, bn_eqm, bn_mlt0, bn_0lem, bn_m0, bn_mle0, bn_ltm, bn_mlt, bn_mle, bn_lem, nI_add, pk_mul, pk_sub, nI_clamp, B_n_nI, bn_0, bc_0, bc_m1, bc_1, bc_2, bc_3, bc_4, bc_5, bc_6, bc_7, bc_8, bc_9, bc_10, bc_11, bc_12, bc_13, bc_16, bc_22, bc_24, bc_32, bc_40, bc_41, bc_42, bc_43, bc_44, bc_45, bc_47, bc_48, bc_52, bc_57, bc_58, bc_59, bc_60, bc_61, bc_62, bc_63, bc_64, bc_76, bc_80, bc_97, bc_99, bc_105, bc_106, bc_107, bc_108, bc_109, bc_110, bc_111, bc_112, bc_113, bc_114, bc_115, bc_116, bc_117, bc_118, bc_119, bc_120, bc_121, bc_122, bc_255, bc_256, bc_400, bc_572, bc_999, bc_1024, bc_10000, bc_m2, bc_m3, bc_m8, bc_m100, bc_m200, B_bind, B_bind_if, B_ift, B_bz0, B_bz1, B_01_bz, B_01_e0, B_01_e1, if_pos, if_neg, reduceIte, Bool.false_eq_true, Bool.true_eq_false]
  rw [Nat.mul_comm s 52, hs_save_s (by omega), B_bind]
theorem me_unstage_s (I : I_us h P T K U s) : me_unstage h = some (0, B_lo (52 * s) h) := by
  obtain ⟨u1, u2, u3, u4, u5, -⟩ := I
  unfold me_unstage
  simp (disch := omega) only [u4, bn_le, bn_lt, bn_eq, bn_le0, bn_0le, bn_lt0, bn_0lt, bn_eq0, bn_0eq, bn_eqm, bn_mlt0, bn_0lem, bn_m0, bn_mle0, bn_ltm, bn_mlt, bn_mle, bn_lem, nI_add, pk_mul, pk_sub, nI_clamp, B_n_nI, bn_0, bc_0, bc_m1, bc_1, bc_2, bc_3, bc_4, bc_5, bc_6, bc_7, bc_8, bc_9, bc_10, bc_11, bc_12, bc_13, bc_16, bc_22, bc_24, bc_32, bc_40, bc_41, bc_42, bc_43, bc_44, bc_45, bc_47, bc_48, bc_52, bc_57, bc_58, bc_59, bc_60, bc_61, bc_62, bc_63, bc_64, bc_76, bc_80, bc_97, bc_99, bc_105, bc_106, bc_107, bc_108, bc_109, bc_110, bc_111, bc_112, bc_113, bc_114, bc_115, bc_116, bc_117, bc_118, bc_119, bc_120, bc_121, bc_122, bc_255, bc_256, bc_400, bc_572, bc_999, bc_1024, bc_10000, bc_m2, bc_m3, bc_m8, bc_m100, bc_m200, B_bind, B_bind_if, B_ift, B_bz0, B_bz1, B_01_bz, B_01_e0, B_01_e1, if_pos, if_neg, reduceIte, Bool.false_eq_true, Bool.true_eq_false]
  rw [Nat.mul_comm s 52, hs_load_s (by omega), B_bind]
theorem px_min_nI {a b : Nat} (ha : a < 2 ^ 31) (hb : b < 2 ^ 31) : px_min (nI a) (nI b) = nI (min a b) := by
  unfold px_min
  by_cases q : nI b < nI a
  · rw [if_pos q]
    rw [nI_ltI hb ha] at q
    rw [Nat.min_eq_right (by omega)]
  · rw [if_neg q]
    rw [nI_ltI hb ha] at q
    rw [Nat.min_eq_left (by omega)]
theorem me_commit_s (u1 : U ≤ 12) (u2 : s < 13) (u3 : h 41 2 = nI U) (u4 : h 41 3 = nI s) : me_commit h = some (0, px_w (px_w h 41 3 (nI ((s + 1) % 13))) 41 2 (nI (min (U + 1) 12))) := by
  unfold me_commit
  have e := pk_rem (a := s + 1) (d := 13) (by omega) (by omega) (by omega)
  have e0 : ¬ nI 13 = 0 := by decide
  simp (disch := omega) only [u3, u4, bc_13, bc_1, bc_12, e0, if_false, if_neg, B_w_same, B_w_cell, B_w_at]
  rw [nI_add, e, nI_add, px_min_nI (by omega) (by omega)]
theorem I_us.stage (I : I_us h P T K U s) (h6 : P ≤ 6) (h10 : T ≤ 10) : I_us (B_sv (52 * s) h) P T K U s := by
  obtain ⟨u1, u2, u3, u4, u5, u6⟩ := I
  obtain ⟨s1, -, -, s4⟩ := B_sv_inv (h := h) (b := 52 * s)
  unfold I_us
  rw [s1 41 (by decide), s1 51 (by decide), s1 66 (by decide)]
  refine ⟨u1, u2, u3, u4, u5, fun j hj => ?_⟩
  obtain ⟨Z, z1, z2, z3⟩ := u6 j hj
  exact ⟨Z, z1, z2.ext h6 h10 (fun k hk => s4 _ (by omega)), z3⟩
theorem I_kep.stage {i : Nat} (I : I_kep h P T K i) (hs : s < 13) (h6 : P ≤ 6) (h10 : T ≤ 10) : I_kep (B_sv (52 * s) h) P T K i := by
  obtain ⟨s1, -, -, s4⟩ := B_sv_inv (h := h) (b := 52 * s)
  unfold I_kep at *
  rw [s1 41 (by decide), s1 51 (by decide), s1 80 (by decide), s1 81 (by decide), s1 79 (by decide)]
  obtain ⟨c, c1, c2, c3⟩ := I
  refine ⟨c, c1, c2, fun q hq => ⟨(c3 q hq).1, ?_⟩⟩
  have c4 := (c3 q hq).2
  split
  · rename_i hb
    rw [if_pos hb] at c4
    obtain ⟨x1, x2, Z, z1, z2, z3⟩ := c4
    exact ⟨x1, x2, Z, z1, z2.ext h6 h10 (fun k hk => s4 _ (by omega)), z3⟩
  · rename_i hb
    rw [if_neg hb] at c4
    exact c4
theorem R_c.store {f : Nat → Int32} (R : R_c h P T K Y S) {h' : pH} (e : ∀ a, a ≠ 42 → h' a = h a) : R_c h' P T K Y S := by
  unfold R_c at *
  rw [e 3 (by decide), e 14 (by decide), e 4 (by decide), e 5 (by decide), e 6 (by decide), e 7 (by decide), e 8 (by decide), e 9 (by decide), e 10 (by decide), e 11 (by decide), e 12 (by decide), e 13 (by decide), e 15 (by decide)]
  exact R
theorem I_h.stage {i n : Nat} {ev : pE} (I : I_h h P T K Y i n S ev) (u : I_us h P T K U s) : I_h (B_sv (52 * s) h) P T K Y i n S ev := by
  obtain ⟨R, M, W, X, V, E, L⟩ := I
  have h6 := W.1
  have h10 := W.2.1
  obtain ⟨s1, -, -, s4⟩ := B_sv_inv (h := h) (b := 52 * s)
  refine ⟨R.store (f := h 0) s1, ?_, W, ?_, ⟨U, s, u.stage h6 h10⟩, E.stage u.2.1 h6 h10, ?_⟩
  · unfold R_m R_k R_a at *
    rw [s1 51 (by decide), s1 54 (by decide), s1 52 (by decide), s1 55 (by decide), s1 56 (by decide), s1 57 (by decide), s1 53 (by decide)]
    exact M
  · unfold I_txt at *
    rw [s1 1 (by decide), s1 51 (by decide), s1 2 (by decide), s1 58 (by decide)]
    exact X
  · unfold I_rul at *
    rw [s1 17 (by decide), s1 51 (by decide), s1 18 (by decide), s1 63 (by decide)]
    exact L
/-- the reference remembers the row a -/
theorem mo_remember_s (ht : px_tag a = 0) (hl : px_len a = 52) (ha : a ≠ 66) (ha2 : a ≠ 51) (u1 : U ≤ 12) (u5 : h 51 35 = nI U) : ∃ h', mo_remember a h = some (0, h') ∧ h' 51 35 = nI (min (U + 1) 12) ∧ (∀ b, b ≠ 66 → b ≠ 51 → h' b = h b) ∧ (∀ k, k ≠ 35 → h' 51 k = h 51 k) ∧ (∀ k, k < 52 → h' 66 (52 * min U 11 + k) = h a k) ∧ (∀ j, j < min U 11 → ∀ k, k < 52 → h' 66 (52 * j + k) = h 66 (52 * (j + (U - min U 11)) + k)) := by
  have e49 : ∀ (V : Nat) (h : pH), V ≤ 11 → h 51 35 = nI V → mo_remember_49 a h = some (0, px_w (B_cp h (h a) 66 (52 * V)) 51 35 (nI (V + 1))) := fun V h hV hu => by
    have hlen : px_len 66 = 624 := rfl
    unfold mo_remember_49
    rw [hu, bc_52, pk_mul, mo_lay_s (off := 52 * V) ht hl (a1 := 66) rfl (by rw [hlen]; omega) (by decide) ha, B_bind]
    show some (0, px_w (B_cp h (h a) 66 (52 * V)) 51 35 ((B_cp h (h a) 66 (52 * V)) 51 35 + px_c 1)) = _
    rw [B_cp_ne (show (51 : Nat) ≠ 66 by decide), hu, bc_1, nI_add]
  unfold mo_remember
  by_cases hU : U = 12
  · subst hU
    rw [u5, bc_12, if_pos rfl]
    have e := B_loopI (fun n h k => mo_remember_11 n a (nI k) h) 572 (fun k h => px_w h 66 k (h 66 (k + 52))) (fun h => mo_remember_49 a (px_w h 51 35 (nI 11))) (fun _ h => h 51 35 = nI 12) (fun n h k hk hh => ⟨by
      simp (disch := omega) only [mo_remember_11, bn_le, bn_lt, bn_eq, bn_le0, bn_0le, bn_lt0, bn_0lt, bn_eq0, bn_0eq, bn_eqm, bn_mlt0, bn_0lem, bn_m0, bn_mle0, bn_ltm, bn_mlt, bn_mle, bn_lem, nI_add, pk_mul, pk_sub, nI_clamp, B_n_nI, bn_0, bc_0, bc_m1, bc_1, bc_2, bc_3, bc_4, bc_5, bc_6, bc_7, bc_8, bc_9, bc_10, bc_11, bc_12, bc_13, bc_16, bc_22, bc_24, bc_32, bc_40, bc_41, bc_42, bc_43, bc_44, bc_45, bc_47, bc_48, bc_52, bc_57, bc_58, bc_59, bc_60, bc_61, bc_62, bc_63, bc_64, bc_76, bc_80, bc_97, bc_99, bc_105, bc_106, bc_107, bc_108, bc_109, bc_110, bc_111, bc_112, bc_113, bc_114, bc_115, bc_116, bc_117, bc_118, bc_119, bc_120, bc_121, bc_122, bc_255, bc_256, bc_400, bc_572, bc_999, bc_1024, bc_10000, bc_m2, bc_m3, bc_m8, bc_m100, bc_m200, B_bind, B_bind_if, B_ift, B_bz0, B_bz1, B_01_bz, B_01_e0, B_01_e1, if_pos, if_neg, reduceIte, Bool.false_eq_true, Bool.true_eq_false, po_52, pz_52, po_53, pz_53, po_54, pz_54, po_55, pz_55, po_56, pz_56, po_57, pz_57, po_58, pz_58, po_59, pz_59, po_60, pz_60, po_61, pz_61, po_62, pz_62, po_63, pz_63, po_64, pz_64, po_65, pz_65, po_66, pz_66, po_67, pz_67, po_68, pz_68, po_69, pz_69, po_70, pz_70, po_71, pz_71, po_72, pz_72, po_73, pz_73, po_74, pz_74, po_75, pz_75, po_76, pz_76, po_77, pz_77, po_78, pz_78, po_79, pz_79, po_80, pz_80, po_81, pz_81], by
      try dsimp only
      rw [B_w_cell _ _ _ (by decide)]
      exact hh⟩) (fun n h hh => by
      simp (disch := omega) only [mo_remember_11, hh, bn_le, bn_lt, bn_eq, bn_le0, bn_0le, bn_lt0, bn_0lt, bn_eq0, bn_0eq, bn_eqm, bn_mlt0, bn_0lem, bn_m0, bn_mle0, bn_ltm, bn_mlt, bn_mle, bn_lem, nI_add, pk_mul, pk_sub, nI_clamp, B_n_nI, bn_0, bc_0, bc_m1, bc_1, bc_2, bc_3, bc_4, bc_5, bc_6, bc_7, bc_8, bc_9, bc_10, bc_11, bc_12, bc_13, bc_16, bc_22, bc_24, bc_32, bc_40, bc_41, bc_42, bc_43, bc_44, bc_45, bc_47, bc_48, bc_52, bc_57, bc_58, bc_59, bc_60, bc_61, bc_62, bc_63, bc_64, bc_76, bc_80, bc_97, bc_99, bc_105, bc_106, bc_107, bc_108, bc_109, bc_110, bc_111, bc_112, bc_113, bc_114, bc_115, bc_116, bc_117, bc_118, bc_119, bc_120, bc_121, bc_122, bc_255, bc_256, bc_400, bc_572, bc_999, bc_1024, bc_10000, bc_m2, bc_m3, bc_m8, bc_m100, bc_m200, B_bind, B_bind_if, B_ift, B_bz0, B_bz1, B_01_bz, B_01_e0, B_01_e1, if_pos, if_neg, reduceIte, Bool.false_eq_true, Bool.true_eq_false]) 572 0 px_F h (by omega) (px_F_lt (by omega)) u5
    have hI := B_fold_inv (g := fun k (h : pH) => px_w h 66 k (h 66 (k + 52))) (fun k h' => (∀ b, b ≠ 66 → h' b = h b) ∧ (∀ j, h' 66 j = if j < k then h 66 (j + 52) else h 66 j)) 572 0 h ⟨fun _ _ => rfl, fun j => by rw [if_neg (by omega)]⟩ (fun k h' _ hk ⟨i1, i2⟩ => by
      refine ⟨fun b hb => ?_, fun j => ?_⟩
      · try dsimp only
        rw [B_w_cell _ _ _ hb, i1 b hb]
      · try dsimp only
        rw [B_w_at, i2, i2]
        by_cases q : j = k
        · subst q
          rw [if_pos rfl, if_neg (by omega), if_pos (by omega)]
        · rw [if_neg q]
          by_cases w : j < k
          · rw [if_pos w, if_pos (by omega)]
          · rw [if_neg w, if_neg (by omega)])
    obtain ⟨i1, i2⟩ := hI
    generalize hH : B_fold (fun k (h : pH) => px_w h 66 k (h 66 (k + 52))) 0 572 h = H at e i1 i2
    rw [bc_0, ← nI_0, e, e49 11 (px_w H 51 35 (nI 11)) (by omega) (B_w_same _ _ _ _)]
    refine ⟨_, rfl, B_w_same _ _ _ _, fun b h1 h2 => ?_, fun k hk => ?_, fun k hk => ?_, fun j hj k hk => ?_⟩
    · rw [B_w_cell _ _ _ h2, B_cp_ne h1, B_w_cell _ _ _ h2, i1 b h1]
    · rw [B_w_at, if_neg hk, B_cp_ne (by decide), B_w_at, if_neg hk, i1 51 (by decide)]
    · rw [B_w_cell _ _ _ (by decide)]
      unfold B_cp
      rw [if_pos ⟨rfl, by omega, by omega⟩, B_w_cell _ _ _ ha2, i1 a ha, show 52 * min 12 11 + k - 52 * 11 = k by omega]
    · rw [B_w_cell _ _ _ (by decide), B_cp_out (by omega), B_w_cell _ _ _ (by decide), i2, if_pos (by omega), show 52 * j + k + 52 = 52 * (j + (12 - min 12 11)) + k by omega]
  · have e0 : ¬ nI U = nI 12 := fun q => hU ((nI_eq (by omega) (by omega)).mp q)
    rw [u5, bc_12, if_neg e0, e49 U h (by omega) u5]
    have e1 : min U 11 = U := by omega
    have e2 : min (U + 1) 12 = U + 1 := by omega
    rw [e1, e2]
    refine ⟨_, rfl, B_w_same _ _ _ _, fun b h1 h2 => ?_, fun k hk => ?_, fun k hk => ?_, fun j hj k hk => ?_⟩
    · rw [B_w_cell _ _ _ h2, B_cp_ne h1]
    · rw [B_w_at, if_neg hk, B_cp_ne (by decide)]
    · rw [B_w_cell _ _ _ (by decide)]
      unfold B_cp
      rw [if_pos ⟨rfl, by omega, by omega⟩]
      congr 1
      omega
    · rw [B_w_cell _ _ _ (by decide), B_cp_out (by omega)]
      congr 1
      omega
/-- a state more that can be undone: Z, staged in slot s, remembered from a row of the reference's -/
theorem I_us.push {h' : pH} {f : Nat → Int32} (u : I_us h P T K U s) (h6 : P ≤ 6) (h10 : T ≤ 10) (V : R_wm P T K Z) (q : Q_c (h 42) (52 * s) P T Z) (qa : Q_m f 0 P T Z) (e42 : h' 42 = h 42) (e2 : h' 41 2 = nI (min (U + 1) 12)) (e3 : h' 41 3 = nI ((s + 1) % 13)) (e35 : h' 51 35 = nI (min (U + 1) 12)) (ea : ∀ k, k < 52 → h' 66 (52 * min U 11 + k) = f k) (eb : ∀ j, j < min U 11 → ∀ k, k < 52 → h' 66 (52 * j + k) = h 66 (52 * (j + (U - min U 11)) + k)) : I_us h' P T K (min (U + 1) 12) ((s + 1) % 13) := by
  obtain ⟨u1, u2, u3, u4, u5, u6⟩ := u
  refine ⟨by omega, by omega, e2, e3, e35, fun j hj => ?_⟩
  by_cases hq : j < min U 11
  · obtain ⟨Z', z1, z2, z3⟩ := u6 (j + (U - min U 11)) (by omega)
    refine ⟨Z', z1, ?_, z3.ext h6 h10 (eb j hq)⟩
    rw [e42]
    have : ((s + 1) % 13 + 13 - min (U + 1) 12 + j) % 13 = (s + 13 - U + (j + (U - min U 11))) % 13 := by omega
    rw [this]
    exact z2
  · have hj2 : j = min U 11 := by omega
    refine ⟨Z, V, ?_, qa.ext h6 h10 (fun k hk => by rw [hj2, ea k hk, Nat.zero_add])⟩
    rw [e42]
    have : ((s + 1) % 13 + 13 - min (U + 1) 12 + j) % 13 = s := by omega
    rw [this]
    exact q
end UND
