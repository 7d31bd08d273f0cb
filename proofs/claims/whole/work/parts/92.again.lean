/-! Layer B: keep, again -/
section AGAIN
variable {i : Nat} {h : pH} {P T K Y U s : Nat} {S Z : pH}
theorem B_nz1 : px_nz (nI 1) = nI 1 := rfl
theorem in01 (v : Int32) {hh : pH} : mo_in v (px_c 0) (px_c 1) hh = some (B_01 (B_is v 2), hh) := by
  have e := mo_in0_eq (h := hh) v (y := nI 2) rfl (by omega : 2 < 2 ^ 30)
  have e1 : nI 2 - px_c 1 = px_c 1 := by rw [bc_1]; rfl
  rw [e1] at e
  exact e
theorem B_keep (hI : Inv i h) (v0 : Int32) : ∃ r h1 h2, wu_keep v0 h = some (r, h1) ∧ mo_keep v0 h1 = some (r, h2) ∧ Inv (i + 5) h2 := by
  obtain ⟨P, T, K, Y, n, S, ev, I, r⟩ := hI
  have W := I.2.2.1
  have h6 := W.1
  have h10 := W.2.1
  cases hq : B_is v0 2 with
  | false =>
    refine ⟨0, h, B_t0 h, ?_, ?_, B_qr I r⟩
    · have hz : me_keepUnder v0 h = some (0, h) := by
        unfold me_keepUnder me_keepUnder_9
        rw [B_is_2 v0 (by omega)] at hq
        by_cases q : v0 < 0
        · rw [if_pos q, bc_0, B_bz0]
        · rw [if_neg q]
          rw [decide_eq_false q] at hq
          have q2 : nI 2 ≤ v0 := by simpa using hq
          rw [bc_2, if_neg (Int32.not_lt.mpr q2), bc_0, B_bz0]
      unfold wu_keep
      rw [hz, B_bind, B_bz0]
    · unfold mo_keep
      show px_bind (mo_in v0 (px_c 0) (px_c 1) (px_w h 51 14 (px_c 0))) _ = _
      rw [in01, hq, B_bind, if_pos (show B_01 false = 0 from rfl), bc_0, B_bz0]
      rfl
  | true =>
    obtain ⟨q, hq2, rfl⟩ := B_is_ex hq (by omega)
    have eS : hs_save 42 ((px_c 13 + nI q) * px_c 52) h = some (0, B_sv (52 * (13 + q)) h) := by
      rw [bc_13, bc_52, nI_add, pk_mul, Nat.mul_comm, hs_save_s (by omega)]
    obtain ⟨s1, s2, s3, s4⟩ := B_sv_inv (h := h) (b := 52 * (13 + q))
    have QS := B_sv_Q (b := 52 * (13 + q)) I.1 W
    generalize hB : B_sv (52 * (13 + q)) h = hb at *
    have e41 : hb 41 = h 41 := s1 41 (by decide)
    generalize hH1 : px_w hb 41 1 (h 41 1 ||| (nI 1 <<< (nI q &&& 31))) = h1 at *
    have g : ∀ a, a ≠ 41 → a ≠ 42 → h1 a = h a := fun a ha h2 => by rw [← hH1, B_w_cell _ _ _ ha, s1 a h2]
    have g42 : h1 42 = hb 42 := by rw [← hH1, B_w_cell _ _ _ (by decide)]
    have g41 : ∀ k, k ≠ 1 → h1 41 k = h 41 k := fun k hk => by rw [← hH1, B_w_at, if_neg hk, e41]
    have g411 : h1 41 1 = h 41 1 ||| (nI 1 <<< (nI q &&& 31)) := by rw [← hH1, B_w_same]
    obtain ⟨c, c1, c2, c3⟩ := I.2.2.2.2.2.1
    generalize hH2 : px_w (px_w (B_t0 h1) 80 q (nI 1)) 81 q (nI c) = h2 at *
    have k2 : ∀ a, a ≠ 51 → a ≠ 80 → a ≠ 81 → h2 a = h1 a := fun a x1 x2 x3 => by rw [← hH2, B_w_cell _ _ _ x3, B_w_cell _ _ _ x2, B_t0_row _ x1]
    have k51 : ∀ k, k ≠ 14 → h2 51 k = h1 51 k := fun k hk => by rw [← hH2, B_w_cell _ _ _ (by decide), B_w_cell _ _ _ (by decide), B_t0_at _ hk]
    have k80 : ∀ k, h2 80 k = if k = q then nI 1 else h 80 k := fun k => by rw [← hH2, B_w_cell _ _ _ (by decide), B_w_at, B_t0_row _ (by decide), g 80 (by decide) (by decide)]
    have k81 : ∀ k, h2 81 k = if k = q then nI c else h 81 k := fun k => by rw [← hH2, B_w_at, B_w_cell _ _ _ (by decide), B_t0_row _ (by decide), g 81 (by decide) (by decide)]
    have hlay := mo_lay_s (h := h2) (a0 := 52) (a1 := 79) (off := 52 * q) rfl rfl rfl (show 52 * q + 52 ≤ 104 by omega) (by decide) (by decide)
    have e52 : h2 52 = h 52 := by rw [k2 52 (by decide) (by decide) (by decide), g 52 (by decide) (by decide)]
    have Q79 : Q_m (B_cp h2 (h2 52) 79 (52 * q) 79) (52 * q) P T S := B_cp_Q (a := 52) (I.2.1.2.cell (h' := h2) e52) h6 h10 79
    have l2 : ∀ a, a ≠ 79 → B_cp h2 (h2 52) 79 (52 * q) a = h2 a := fun a ha => B_cp_ne ha
    have l79 : ∀ k, k < 52 * q ∨ 52 * q + 52 ≤ k → B_cp h2 (h2 52) 79 (52 * q) 79 k = h2 79 k := fun k hk => B_cp_out hk
    refine ⟨nI 1, h1, B_cp h2 (h2 52) 79 (52 * q), ?_, ?_, ?_⟩
    · unfold wu_keep me_keepUnder
      rw [if_neg (nI_pos (by omega)), bc_2, if_pos (nI_lt hq2 (by omega)), eS, B_bind, bc_1]
      dsimp only
      rw [e41, hH1, B_bz1, B_bind, B_bz1]
    · unfold mo_keep
      show px_bind (mo_in (nI q) (px_c 0) (px_c 1) (px_w h1 51 14 (px_c 0))) _ = _
      rw [in01, hq, B_bind, if_neg (by decide), po_80 hq2, B_ift, bc_1, B_nz1, nI_clamp (by omega), bc_0]
      unfold mo_keep_23
      have e60 : (px_w (px_w h1 51 14 0) 80 q (nI 1)) 51 60 = nI c := by
        rw [B_w_cell _ _ _ (by decide), B_w_at, if_neg (by decide), g 51 (by decide) (by decide), c2]
      rw [po_81 hq2, B_ift, nI_clamp (by omega)]
      dsimp only
      rw [e60]
      have eH2 : px_w (px_w (px_w h1 51 14 0) 80 q (nI 1)) 81 q (nI c) = h2 := hH2
      rw [eH2, bc_52, pk_mul, hlay, B_bind, bc_1, B_bz1]
    · generalize hH3 : B_cp h2 (h2 52) 79 (52 * q) = h3 at *
      have f : ∀ a, a ≠ 41 → a ≠ 42 → a ≠ 51 → a ≠ 79 → a ≠ 80 → a ≠ 81 → h3 a = h a := fun a x1 x2 x3 x4 x5 x6 => by rw [l2 a x4, k2 a x3 x5 x6, g a x1 x2]
      have f51 : ∀ k, k ≠ 14 → h3 51 k = h 51 k := fun k hk => by rw [l2 51 (by decide), k51 k hk, g 51 (by decide) (by decide)]
      have f41 : ∀ k, h3 41 k = h1 41 k := fun k => by rw [l2 41 (by decide), k2 41 (by decide) (by decide) (by decide)]
      have f42 : h3 42 = hb 42 := by rw [l2 42 (by decide), k2 42 (by decide) (by decide) (by decide), g42]
      obtain ⟨R, M, W, X, V, E, L⟩ := I
      refine ⟨P, T, K, Y, n, S, ev, ⟨R.cs (fun a x1 x2 => f a (by omega) (by omega) (by omega) (by omega) (by omega) (by omega)), ⟨M.1.cs (fun k hk => f51 k (by omega)) (fun a x1 x2 => f a (by omega) (by omega) (by omega) (by omega) (by omega) (by omega)), M.2.cell (f 52 (by decide) (by decide) (by decide) (by decide) (by decide) (by decide))⟩, W, ?_, ?_, ⟨c, by omega, ?_, fun q' hq' => ⟨?_, ?_⟩⟩, ?_⟩, r.sm ?_ ?_ ?_ ?_⟩
      · unfold I_txt at *
        rw [f 1 (by decide) (by decide) (by decide) (by decide) (by decide) (by decide), f 2 (by decide) (by decide) (by decide) (by decide) (by decide) (by decide), f 58 (by decide) (by decide) (by decide) (by decide) (by decide) (by decide), f51 11 (by decide)]
        exact X
      · obtain ⟨U, s, u1, u2, u3, u4, u5, u6⟩ := V
        refine ⟨U, s, u1, u2, by rw [f41, g41 2 (by decide), u3], by rw [f41, g41 3 (by decide), u4], by rw [f51 35 (by decide), u5], fun j hj => ?_⟩
        obtain ⟨Z, z1, z2, z3⟩ := u6 j hj
        refine ⟨Z, z1, ?_, ?_⟩
        · rw [f42]
          exact z2.ext h6 h10 (fun k hk => s4 _ (by omega))
        · rw [f 66 (by decide) (by decide) (by decide) (by decide) (by decide) (by decide)]
          exact z3
      · rw [f51 60 (by decide), c2]
      · rw [l2 80 (by decide), k80]
        split
        · exact Or.inr rfl
        · exact (c3 q' hq').1
      · have e80 : h3 80 q' = if q' = q then nI 1 else h 80 q' := by rw [l2 80 (by decide), k80]
        have e81 : h3 81 q' = if q' = q then nI c else h 81 q' := by rw [l2 81 (by decide), k81]
        rw [e80, e81, f41, g411, B_bit_or, B_bit_sh (by omega) (by omega)]
        by_cases hqq : q' = q
        · subst hqq
          rw [decide_eq_true rfl, Bool.or_true, if_pos rfl, if_pos rfl, if_pos rfl]
          exact ⟨rfl, rfl, S, R_w_wm W, by rw [f42]; exact QS, Q79⟩
        · rw [decide_eq_false hqq, Bool.or_false, if_neg hqq, if_neg hqq]
          have c4 := (c3 q' hq').2
          split
          · rename_i hb1
            rw [if_pos hb1] at c4
            obtain ⟨x1, x2, Z, z1, z2, z3⟩ := c4
            refine ⟨x1, x2, Z, z1, ?_, ?_⟩
            · rw [f42]
              exact z2.ext h6 h10 (fun k hk => s4 _ (by omega))
            · refine z3.ext h6 h10 (fun k hk => ?_)
              rw [l79 _ (by omega), k2 79 (by decide) (by decide) (by decide), g 79 (by decide) (by decide)]
          · rename_i hb1
            rw [if_neg hb1] at c4
            exact c4
      · unfold I_rul at *
        rw [f 17 (by decide) (by decide) (by decide) (by decide) (by decide) (by decide), f 18 (by decide) (by decide) (by decide) (by decide) (by decide) (by decide), f 63 (by decide) (by decide) (by decide) (by decide) (by decide) (by decide), f51 26 (by decide)]
        exact L
      · rw [f 45 (by decide) (by decide) (by decide) (by decide) (by decide) (by decide)]
      · exact f 46 (by decide) (by decide) (by decide) (by decide) (by decide) (by decide)
      · exact f51 13 (by decide)
      · exact f 59 (by decide) (by decide) (by decide) (by decide) (by decide) (by decide)
theorem B_again (hi : i + 5 ≤ 2560) (hI : Inv i h) (v0 : Int32) : ∃ r h1 h2, wu_again v0 h = some (r, h1) ∧ mo_again v0 h1 = some (r, h2) ∧ Inv (i + 5) h2 := by
  obtain ⟨P, T, K, Y, n, S, ev, I, r⟩ := hI
  have W := I.2.2.1
  have h6 := W.1
  have h10 := W.2.1
  obtain ⟨c, c1, c2, c3⟩ := I.2.2.2.2.2.1
  have eag : ∀ hh : pH, mo_again v0 hh = px_bind (mo_in v0 (px_c 0) (px_c 1) (B_t0 hh)) fun z2 h3 => if z2 = 0 then mo_again_36 h3 else px_if (px_ok 1 80 v0 || px_ok 3 80 v0) (if h3 80 v0.toNatClampNeg = 0 then mo_again_36 h3 else px_if (px_ok 0 81 v0) (if h3 81 v0.toNatClampNeg = h3 51 60 then mo_again_40 px_F v0 0 h3 else mo_again_36 h3)) := fun hh => by
    unfold mo_again B_t0
    rw [bc_0]
  have e36 : ∀ hh : pH, mo_again_36 hh = some (0, hh) := fun hh => by
    unfold mo_again_36
    rw [bc_0, B_bz0]
  cases hq : B_is v0 2 with
  | false =>
    refine ⟨0, h, B_t0 h, ?_, ?_, B_qr I r⟩
    · have hz : me_bringBack v0 h = some (0, h) := by
        unfold me_bringBack me_bringBack_20
        rw [B_is_2 v0 (by omega)] at hq
        by_cases q : v0 < 0
        · rw [if_pos q, bc_0, B_bz0]
        · rw [if_neg q]
          rw [decide_eq_false q] at hq
          have q2 : nI 2 ≤ v0 := by simpa using hq
          rw [bc_2, if_pos q2, bc_0, B_bz0]
      unfold wu_again
      rw [hz, B_bind, B_bz0]
    · rw [eag, in01, hq, B_bind, if_pos (show B_01 false = 0 from rfl), e36]
  | true =>
    obtain ⟨q, hq2, rfl⟩ := B_is_ex hq (by omega)
    obtain ⟨c4, c5⟩ := c3 q hq2
    have hm : ∀ hh : pH, mo_again (nI q) hh = (if (B_t0 hh) 80 q = 0 then some (0, B_t0 hh) else if (B_t0 hh) 81 q = (B_t0 hh) 51 60 then mo_again_40 px_F (nI q) 0 (B_t0 hh) else some (0, B_t0 hh)) := fun hh => by
      rw [eag, in01, hq, B_bind, if_neg (by decide), po_80 hq2, Bool.or_true, B_ift, po_81 hq2, B_ift, nI_clamp (by omega), e36]
    cases hb : B_bit (h 41 1) q with
    | false =>
      refine ⟨0, h, B_t0 h, ?_, ?_, B_qr I r⟩
      · unfold wu_again me_bringBack me_bringBack_20
        rw [if_neg (nI_pos (by omega)), bc_2, if_neg (nI_ge hq2 (by omega)), wu_has_eq _ (by omega), hb, B_bind, if_pos (show (if false = true then (1 : Int32) else 0) = 0 from rfl), bc_0, B_bz0, B_bind, B_bz0]
      · rw [hb, if_neg (by decide)] at c5
        rw [hm, B_t0_row _ (by decide), B_t0_row _ (by decide), B_t0_at _ (by decide), c2]
        rcases c5 with c5 | ⟨d, d1, d2⟩
        · rw [if_pos c5]
        · split
          · rfl
          · rw [d2, if_neg (fun w => by have := (nI_eq (by omega) (by omega)).mp w; omega)]
    | true =>
      rw [hb, if_pos rfl] at c5
      obtain ⟨c6, c7, Z, z1, z2, z3⟩ := c5
      have eL : hs_load 42 ((px_c 13 + nI q) * px_c 52) h = some (0, B_lo (52 * (13 + q)) h) := by
        rw [bc_13, bc_52, nI_add, pk_mul, Nat.mul_comm, hs_load_s (by omega)]
      obtain ⟨l1, l2, l3⟩ := B_lo_inv (h := h) (b := 52 * (13 + q))
      have RL := B_lo_R (Z := Z) I.1 W z2
      generalize hL : B_lo (52 * (13 + q)) h = hl at *
      generalize hH1 : px_w hl 41 2 0 = h1 at *
      have g : ∀ a, a ≠ 5 → a ≠ 6 → a ≠ 8 → a ≠ 10 → a ≠ 12 → a ≠ 13 → a ≠ 41 → h1 a = h a := fun a x1 x2 x3 x4 x5 x6 x7 => by rw [← hH1, B_w_cell _ _ _ x7, l1 a x1 x2 x3 x4 x5 x6]
      have g41 : ∀ k, k ≠ 2 → h1 41 k = h 41 k := fun k hk => by rw [← hH1, B_w_at, if_neg hk, l1 41 (by decide) (by decide) (by decide) (by decide) (by decide) (by decide)]
      have g412 : h1 41 2 = 0 := by rw [← hH1, B_w_same]
      have hloop := mo_again_loop (h := B_t0 h1) hq2
      have e79 : (fun k => (B_t0 h1) 79 (52 * q + k)) = fun k => h 79 (52 * q + k) := by
        funext k
        rw [B_t0_row _ (by decide), g 79 (by decide) (by decide) (by decide) (by decide) (by decide) (by decide) (by decide)]
      rw [e79] at hloop
      have A2 : R_a (B_cp (B_t0 h1) (fun k => h 79 (52 * q + k)) 52 0) 52 P T Z := B_cp_R (z3.ext h6 h10 (fun k hk => by rw [Nat.zero_add])) h6 h10
      refine ⟨nI 1, h1, px_w (B_cp (B_t0 h1) (fun k => h 79 (52 * q + k)) 52 0) 51 35 0, ?_, ?_, ?_⟩
      · unfold wu_again me_bringBack
        rw [if_neg (nI_pos (by omega)), bc_2, if_neg (nI_ge hq2 (by omega)), wu_has_eq _ (by omega), hb, B_bind, if_neg (show ¬ (if true = true then (1 : Int32) else 0) = 0 by decide), eL, B_bind, bc_0, bc_1]
        dsimp only
        rw [hH1, B_bz1, B_bind, B_bz1]
      · rw [hm, B_t0_row _ (by decide), B_t0_row _ (by decide), B_t0_at _ (by decide), g 80 (by decide) (by decide) (by decide) (by decide) (by decide) (by decide) (by decide), g 81 (by decide) (by decide) (by decide) (by decide) (by decide) (by decide) (by decide), g 51 (by decide) (by decide) (by decide) (by decide) (by decide) (by decide) (by decide), c6, c7, c2, if_neg (by decide), if_pos rfl, hloop]
      · generalize hH2 : B_cp (B_t0 h1) (fun k => h 79 (52 * q + k)) 52 0 = h2 at *
        have k2 : ∀ a, a ≠ 51 → a ≠ 52 → h2 a = h1 a := fun a x1 x2 => by rw [← hH2, B_cp_ne x2, B_t0_row _ x1]
        have f : ∀ a, a ≠ 5 → a ≠ 6 → a ≠ 8 → a ≠ 10 → a ≠ 12 → a ≠ 13 → a ≠ 41 → a ≠ 51 → a ≠ 52 → (px_w h2 51 35 0) a = h a := fun a x1 x2 x3 x4 x5 x6 x7 x8 x9 => by rw [B_w_cell _ _ _ x8, k2 a x8 x9, g a x1 x2 x3 x4 x5 x6 x7]
        have f51 : ∀ k, k ≠ 14 → k ≠ 35 → (px_w h2 51 35 0) 51 k = h 51 k := fun k y1 y2 => by rw [B_w_at, if_neg y2, ← hH2, B_cp_ne (by decide), B_t0_at _ y1, g 51 (by decide) (by decide) (by decide) (by decide) (by decide) (by decide) (by decide)]
        have f41 : (px_w h2 51 35 0) 41 = h1 41 := by rw [B_w_cell _ _ _ (by decide), k2 41 (by decide) (by decide)]
        have f35 : (px_w h2 51 35 0) 51 35 = 0 := B_w_same _ _ _ _
        have f52 : (px_w h2 51 35 0) 52 = h2 52 := B_w_cell _ _ _ (by decide)
        have f5 : ∀ a, 3 ≤ a → a ≤ 15 → (px_w h2 51 35 0) a = hl a := fun a y1 y2 => by rw [B_w_cell _ _ _ (by omega), k2 a (by omega) (by omega), ← hH1, B_w_cell _ _ _ (by omega)]
        generalize px_w h2 51 35 0 = h3 at *
        obtain ⟨R, M, W, X, Vu, E, L⟩ := I
        obtain ⟨U, s, u1, u2, u3, u4, u5, u6⟩ := Vu
        refine ⟨P, T, K, Y, n, B_mix S Z, ev, ⟨RL.cs f5, ⟨(M.1.st (fun i k h1 h2 h4 h6 h8 h9 => ?_)).cs (fun k hk => f51 k (by omega) (by omega)) (fun a y1 y2 => f a (by omega) (by omega) (by omega) (by omega) (by omega) (by omega) (by omega) (by omega) (by omega)), A2.cell f52⟩, R_w_mix W z1, ?_, ⟨0, s, by omega, u2, by rw [f41, g412]; rfl, by rw [f41, g41 3 (by decide), u4], by rw [f35]; rfl, fun j hj => absurd hj (by omega)⟩, ?_, ?_⟩, r.sm ?_ ?_ ?_ ?_⟩
        · unfold B_mix
          split
          · exact absurd rfl h1
          · exact absurd rfl h2
          · exact absurd rfl h4
          · exact absurd rfl h6
          · exact absurd rfl h8
          · exact absurd rfl h9
          · rfl
        · unfold I_txt at *
          rw [f 1 (by decide) (by decide) (by decide) (by decide) (by decide) (by decide) (by decide) (by decide) (by decide), f 2 (by decide) (by decide) (by decide) (by decide) (by decide) (by decide) (by decide) (by decide) (by decide), f 58 (by decide) (by decide) (by decide) (by decide) (by decide) (by decide) (by decide) (by decide) (by decide), f51 11 (by decide) (by decide)]
          exact X
        · have E' := E.up (show i ≤ i + 5 by omega)
          unfold I_kep at *
          rw [f41, g41 1 (by decide), f51 60 (by decide) (by decide), f 80 (by decide) (by decide) (by decide) (by decide) (by decide) (by decide) (by decide) (by decide) (by decide), f 81 (by decide) (by decide) (by decide) (by decide) (by decide) (by decide) (by decide) (by decide) (by decide), f 42 (by decide) (by decide) (by decide) (by decide) (by decide) (by decide) (by decide) (by decide) (by decide), f 79 (by decide) (by decide) (by decide) (by decide) (by decide) (by decide) (by decide) (by decide) (by decide)]
          exact E'
        · unfold I_rul at *
          rw [f 17 (by decide) (by decide) (by decide) (by decide) (by decide) (by decide) (by decide) (by decide) (by decide), f 18 (by decide) (by decide) (by decide) (by decide) (by decide) (by decide) (by decide) (by decide) (by decide), f 63 (by decide) (by decide) (by decide) (by decide) (by decide) (by decide) (by decide) (by decide) (by decide), f51 26 (by decide) (by decide)]
          exact L
        · rw [f 45 (by decide) (by decide) (by decide) (by decide) (by decide) (by decide) (by decide) (by decide) (by decide)]
        · exact f 46 (by decide) (by decide) (by decide) (by decide) (by decide) (by decide) (by decide) (by decide) (by decide)
        · exact f51 13 (by decide) (by decide)
        · exact f 59 (by decide) (by decide) (by decide) (by decide) (by decide) (by decide) (by decide) (by decide) (by decide)
end AGAIN
