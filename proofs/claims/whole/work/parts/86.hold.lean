/-! Layer B: hold, sheet -/
section HOLD
variable {i : Nat} {h : pH} {P T K Y : Nat} {S : pH}
theorem R_k.w54 (R : R_k h P T K Y S) (p : Nat) (v : Int32) : R_k (px_w h 54 p v) P T K Y (px_w S 0 p v) := by
  obtain ⟨mP, mT, mK, mY, m0, m3, m5, m7, m10⟩ := R
  refine ⟨mP, mT, mK, mY, fun k hk => ?_, m3, m5, m7, m10⟩
  rw [B_w_at, B_w_at]
  split
  · rfl
  · exact m0 k hk
theorem R_k.w56 (R : R_k h P T K Y S) (p : Nat) (v : Int32) : R_k (px_w h 56 p v) P T K Y (px_w S 5 p v) := by
  obtain ⟨mP, mT, mK, mY, m0, m3, m5, m7, m10⟩ := R
  refine ⟨mP, mT, mK, mY, m0, m3, fun k hk => ?_, m7, m10⟩
  rw [B_w_at, B_w_at]
  split
  · rfl
  · exact m5 k hk
/-- all but hold and press of the invariant, when only these were written -/
theorem I_h.hp {h2 : pH} {n : Nat} {ev : pE} {Z : pH} (I : I_h h P T K Y i n S ev) (r : I_row h) (R2 : R_c h2 P T K Y Z) (K2 : R_k h2 P T K Y Z) (W2 : R_w P T K Y Z) (hZ : ∀ i k, i ≠ 0 → i ≠ 5 → Z i k = S i k) (f : ∀ a, a ≠ 4 → a ≠ 9 → a ≠ 51 → a ≠ 54 → a ≠ 56 → h2 a = h a) (f51 : ∀ k, k ≠ 14 → h2 51 k = h 51 k) : Inv (i + 5) h2 := by
  obtain ⟨R, M, W, X, V, E, L⟩ := I
  refine ⟨P, T, K, Y, n, Z, ev, ⟨R2, ⟨K2, ?_⟩, W2, ?_, ?_, I_kep.up ?_ (show i ≤ i + 5 by omega), ?_⟩, r.sm ?_ ?_ ?_ ?_⟩
  · obtain ⟨a1, a2, a4, a8, a6, a9⟩ := M.2.cell (h' := h2) (f 52 (by decide) (by decide) (by decide) (by decide) (by decide))
    exact ⟨fun k hk => by rw [a1 k hk, hZ 1 k (by decide) (by decide)], fun k hk => by rw [a2 k hk, hZ 2 k (by decide) (by decide)], fun k hk => by rw [a4 k hk, hZ 4 k (by decide) (by decide)], fun k hk => by rw [a8 k hk, hZ 8 k (by decide) (by decide)], fun k hk => by rw [a6 k hk, hZ 6 k (by decide) (by decide)], fun k hk => by rw [a9 k hk, hZ 9 k (by decide) (by decide)]⟩
  · unfold I_txt at *
    rw [f 1 (by decide) (by decide) (by decide) (by decide) (by decide), f 2 (by decide) (by decide) (by decide) (by decide) (by decide), f 58 (by decide) (by decide) (by decide) (by decide) (by decide), f51 11 (by decide)]
    exact X
  · unfold I_und at *
    rw [f 41 (by decide) (by decide) (by decide) (by decide) (by decide), f 42 (by decide) (by decide) (by decide) (by decide) (by decide), f 66 (by decide) (by decide) (by decide) (by decide) (by decide), f51 35 (by decide)]
    exact V
  · unfold I_kep at *
    rw [f 41 (by decide) (by decide) (by decide) (by decide) (by decide), f 42 (by decide) (by decide) (by decide) (by decide) (by decide), f 79 (by decide) (by decide) (by decide) (by decide) (by decide), f 80 (by decide) (by decide) (by decide) (by decide) (by decide), f 81 (by decide) (by decide) (by decide) (by decide) (by decide), f51 60 (by decide)]
    exact E
  · unfold I_rul at *
    rw [f 17 (by decide) (by decide) (by decide) (by decide) (by decide), f 18 (by decide) (by decide) (by decide) (by decide) (by decide), f 63 (by decide) (by decide) (by decide) (by decide) (by decide), f51 26 (by decide)]
    exact L
  · rw [f 45 (by decide) (by decide) (by decide) (by decide) (by decide)]
  · exact f 46 (by decide) (by decide) (by decide) (by decide) (by decide)
  · exact f51 13 (by decide)
  · exact f 59 (by decide) (by decide) (by decide) (by decide) (by decide)
theorem B_hold (hI : Inv i h) (v0 v1 : Int32) : ∃ r h1 h2, wu_hold v0 v1 h = some (r, h1) ∧ mo_hold v0 v1 h1 = some (r, h2) ∧ Inv (i + 5) h2 := by
  refine B_call hI (fun P T K Y n S ev I r R M W => ?_)
  have h6 := W.1
  have hP := R.1
  have t1 : (nI 1).toInt = 1 := rfl
  have t99 : (nI 99).toInt = 99 := rfl
  by_cases hx : B_is v0 P = true
  · obtain ⟨p, hp, rfl⟩ := B_is_ex hx (by omega)
    by_cases hv : 1 ≤ v1.toInt ∧ v1.toInt ≤ 99
    · have e : ∃ v, 1 ≤ v ∧ v ≤ 99 ∧ v1 = nI v := by
        refine ⟨v1.toInt.toNat, by omega, by omega, ?_⟩
        apply Int32.toInt_inj.mp
        rw [nI_toInt (by omega)]
        omega
      obtain ⟨v, w1, w2, rfl⟩ := e
      refine ⟨S 0 p, px_w h 4 p (nI v), px_w (B_t0 (px_w h 4 p (nI v))) 54 p (nI v), ?_, ?_, ?_⟩
      · unfold wu_hold
        rw [hs_hasPerson_eq _ hP h6, hx, B_bind, if_neg (by decide), bc_1, if_neg (nI_nlt w1 (by omega)), bc_99, if_pos (nI_le w2 (by omega)), wa_4 (by omega), B_bind, wp_4 (by omega), B_bind, R.2.2.2.2.1 p hp]
      · have M2 : R_m (B_t0 (px_w h 4 p (nI v))) P T K Y S := by
          refine R_m.sm ?_ (B_t0_fr _).sm_d
          have := I.2.1
          unfold R_m R_k R_a at *
          simpa (disch := omega) only [B_w_same, B_w_cell, B_w_at, if_pos, if_neg] using this
        unfold mo_hold
        rw [bc_0]
        show px_bind (mo_isPerson (nI p) (B_t0 (px_w h 4 p (nI v)))) _ = _
        have e54 := M2.1.2.2.2.2.1 p hp
        have t0 : (nI v).toInt = (v : Int) := nI_toInt (by omega)
        simp only [mo_isPerson_eq _ M2.1.1 h6, hx, B_bind, mo_in_eq, bc_1, bc_99, t1, t99, t0]
        rw [decide_eq_true (by omega), if_neg (by decide), if_neg (by decide), po_54 (by omega), B_ift, B_ift, nI_clamp (by omega), e54]
      · refine I_h.hp (Z := px_w S 0 p (nI v)) I r ?_ ?_ ?_ (fun i k h0 _ => congrFun (B_w_cell _ _ _ h0) k) (fun a h4 h9 h51 h54 h56 => ?_) (fun k hk => ?_)
        · exact (R.w4 p (nI v)).cs (fun a h1 h2 => by rw [B_w_cell _ _ _ (by omega), B_t0_row _ (by omega)])
        · refine R_k.w54 ?_ p (nI v)
          refine (I.2.1.1.cs (fun k hk => ?_) (fun a h1 h2 => ?_))
          · rw [B_t0_at _ (by omega), B_w_cell _ _ _ (by decide)]
          · rw [B_t0_row _ (by omega), B_w_cell _ _ _ (by omega)]
        · obtain ⟨h6, h10, h5, hY2, hY60, w0, w1', w2', w4, w6, w7, w8, w9, w10, w11⟩ := W
          refine ⟨h6, h10, h5, hY2, hY60, fun k hk => ?_, w1', w2', w4, w6, w7, w8, w9, w10, w11⟩
          rw [B_w_at]
          split
          · exact ⟨v, w1, w2, rfl⟩
          · exact w0 k hk
        · rw [B_w_cell _ _ _ h54, B_t0_row _ h51, B_w_cell _ _ _ h4]
        · rw [B_w_cell _ _ _ (by decide), B_t0_at _ hk, B_w_cell _ _ _ (by decide)]
    · refine ⟨-1, h, B_t0 h, ?_, ?_, B_qr I r⟩
      · unfold wu_hold wu_hold_22
        rw [hs_hasPerson_eq _ hP h6, hx, B_bind, if_neg (by decide), bc_1, bc_m1]
        by_cases q : v1 < nI 1
        · rw [if_pos q]
        · rw [if_neg q, bc_99, if_neg (fun q2 => hv ?_)]
          rw [Int32.lt_iff_toInt_lt, t1] at q
          rw [Int32.le_iff_toInt_le, t99] at q2
          omega
      · unfold mo_hold mo_hold_23
        rw [bc_0]
        show px_bind (mo_isPerson (nI p) (B_t0 h)) _ = _
        simp only [mo_isPerson_eq _ M.1.1 h6, hx, B_bind, mo_in_eq, bc_1, bc_99, t1, t99, bc_m1]
        rw [decide_eq_false hv, if_neg (by decide), if_pos (show B_01 false = 0 from rfl)]
  · have hx' : B_is v0 P = false := by simpa using hx
    refine ⟨-1, h, B_t0 h, ?_, ?_, B_qr I r⟩
    · unfold wu_hold wu_hold_22
      rw [hs_hasPerson_eq _ hP h6, hx', B_bind, if_pos (show B_01 false = 0 from rfl), bc_m1]
    · unfold mo_hold mo_hold_23
      rw [bc_0]
      show px_bind (mo_isPerson v0 (B_t0 h)) _ = _
      rw [mo_isPerson_eq _ M.1.1 h6, hx', B_bind, if_pos (show B_01 false = 0 from rfl), bc_m1]
end HOLD
