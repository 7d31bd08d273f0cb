/-! Layer B: keeps -/
section KEEPS
variable {i : Nat} {h : pH} {P T K Y n : Nat} {S : pH} {ev : pE}
/-- for how many yards t is kept back by p alone, and what is told beside -/
noncomputable def S_kn (ev : pE) (S : pH) (ab : Int32) (t L : Nat) : Nat := B_first (S_bu ev S ab t L 0) 0 L
noncomputable def S_kv (ev : pE) (S : pH) (ab : Int32) (t L : Nat) : Int32 := if S_kn ev S ab t L < L then S_P ev S ab t (nI (S_kn ev S ab t L)) (nI (L - S_kn ev S ab t L)) (nI (0 + S_kn ev S ab t L)) else 0
theorem E_fm_sd : ∀ a k, E_fm a k = true → B_sd a k = true := fun a k e => E_g_sd (a := 68) (Or.inr (Or.inl rfl)) (by decide) a k (E_fm_g 68 a k e)
theorem mo_keeps_137_s (k : Nat) (x : Int32) : ∃ h', mo_keeps_137 (nI k) x h = some (nI k, h') ∧ B_rm h' [x] ∧ B_fr B_sd h h' := by
  obtain ⟨h2, e2, r2, f2⟩ := mo_tell_s x (B_rm_nil h) (by decide)
  refine ⟨h2, ?_, r2, B_fr.trans ((B_fr.refl _ h).w rfl) (f2.mono B_frm_sd)⟩
  unfold mo_keeps_137
  rw [bc_0]
  dsimp only
  rw [e2, B_bind]
theorem mo_keeps_loop {p t L : Nat} (hp : p < P) (ht : t < T) (hL : L ≤ 40) (W : R_w P T K Y S) (he : S 6 t = nI p) : ∀ (j k n : Nat) (h : pH), k + j = L → j < n → M_h h P T K Y S ev → R_a h 68 P T (px_w S 4 t (nI (L - k))) → ∃ h', mo_keeps_66 n (nI p) (nI t) (nI k) 0 h = some (nI (B_first (S_bu ev S (nI 1 <<< (nI p &&& 31)) t L 0) k j), h') ∧ B_rm h' [if B_first (S_bu ev S (nI 1 <<< (nI p &&& 31)) t L 0) k j < L then S_P ev S (nI 1 <<< (nI p &&& 31)) t (nI (B_first (S_bu ev S (nI 1 <<< (nI p &&& 31)) t L 0) k j)) (nI (L - B_first (S_bu ev S (nI 1 <<< (nI p &&& 31)) t L 0) k j)) (nI (0 + B_first (S_bu ev S (nI 1 <<< (nI p &&& 31)) t L 0) k j)) else 0] ∧ B_fr B_sd h h' := by
  have h6 := W.1
  have h10 := W.2.1
  intro j
  induction j with
  | zero =>
    intro k n h hk hn M A
    obtain ⟨n, rfl⟩ : ∃ n', n = n' + 1 := ⟨n - 1, by omega⟩
    obtain ⟨h', x1, x2, x3⟩ := mo_keeps_137_s (h := h) k 0
    refine ⟨h', ?_, ?_, x3⟩
    · have e12 : h 68 (12 + t) = nI 0 := by rw [A.2.2.1 t ht, B_w_same]; congr 1; omega
      show (if px_c 60 ≤ nI k then _ else _) = _
      rw [bc_60, if_neg (nI_ge (by omega) (by omega)), bc_12, nI_add, po_68 (by omega), B_ift, nI_clamp (by omega), e12, if_pos (by decide), x1]
      rfl
    · have : ¬ B_first (S_bu ev S (nI 1 <<< (nI p &&& 31)) t L 0) k 0 < L := by show ¬ k < L; omega
      rw [if_neg this]
      exact x2
  | succ j ih =>
    intro k n h hk hn M A
    obtain ⟨n, rfl⟩ : ∃ n', n = n' + 1 := ⟨n - 1, by omega⟩
    obtain ⟨h1, p1, f1⟩ := mo_pressureOf_s (ab := nI 1 <<< (nI p &&& 31)) ht (Or.inr (Or.inl rfl) : B_sl 68) M A W (nI k) (nI k)
    rw [B_w_same, B_w_cell _ _ _ (by decide)] at p1
    have pP : ev (S 5 t) (nI k) (nI (L - k)) (nI k) (B_pc (nI 1 <<< (nI p &&& 31))) (S 6 t) (S_ab S (nI 1 <<< (nI p &&& 31)) t) = S_P ev S (nI 1 <<< (nI p &&& 31)) t (nI k) (nI (L - k)) (nI (0 + k)) := by
      rw [Nat.zero_add]
      rfl
    rw [pP] at p1
    generalize hPP : S_P ev S (nI 1 <<< (nI p &&& 31)) t (nI k) (nI (L - k)) (nI (0 + k)) = PP at *
    have e12 : h 68 (12 + t) = nI (L - k) := by rw [A.2.2.1 t ht, B_w_same]
    have g12 : h1 68 (12 + t) = nI (L - k) := by rw [f1 68 _ rfl, e12]
    have eho : S_ho S t = S 0 p := by
      unfold S_ho
      rw [he, B_n_nI (by omega)]
    have e54 : h1 54 p = S 0 p := by rw [f1 54 _ rfl]; exact M.1.2.2.2.2.1 p hp
    have qs : nI (L - k) - nI 1 = nI (L - (k + 1)) := by
      rw [pk_sub (by omega)]
      congr 1
    have hz : mo_keeps_66 (n + 1) (nI p) (nI t) (nI k) 0 h = if S_bu ev S (nI 1 <<< (nI p &&& 31)) t L 0 k = true then mo_keeps_137 (nI k) PP h1 else mo_keeps_66 n (nI p) (nI t) (nI (k + 1)) 0 (px_w h1 68 (12 + t) (nI (L - (k + 1)))) := by
      show (if px_c 60 ≤ nI k then _ else _) = _
      rw [bc_60, if_neg (nI_ge (by omega) (by omega)), bc_12, nI_add, po_68 (by omega), B_ift, nI_clamp (by omega), e12, if_neg (fun w => by rw [bn_le0 (by omega)] at w; omega), bc_1, p1, B_bind, po_54 (by omega), B_ift, nI_clamp (by omega), e54, B_ift, B_ift]
      unfold S_bu
      rw [hPP, eho]
      by_cases q : S 0 p < PP
      · rw [if_neg (Int32.not_le.mpr q), if_pos (decide_eq_true q)]
      · rw [if_pos (Int32.not_lt.mp q), if_neg (by simpa using q)]
        dsimp only
        rw [g12, qs, nI_add]
    rw [hz]
    unfold B_first
    by_cases q : S_bu ev S (nI 1 <<< (nI p &&& 31)) t L 0 k = true
    · rw [if_pos q, if_pos q]
      obtain ⟨h', x1, x2, x3⟩ := mo_keeps_137_s (h := h1) k PP
      refine ⟨h', x1, ?_, (f1.mono E_fm_sd).trans x3⟩
      rw [if_pos (by omega), hPP]
      exact x2
    · rw [if_neg q, if_neg q]
      have F2 : B_fr (E_g 68) h (px_w h1 68 (12 + t) (nI (L - (k + 1)))) := (f1.mono (E_fm_g 68)).w rfl
      have A1 : R_a h1 68 P T (px_w S 4 t (nI (L - k))) := A.cell (f1.row 68 (fun _ => rfl))
      have A2 := A1.w4 h6 h10 (p := t) (by omega) (nI (L - (k + 1)))
      rw [px_w_w] at A2
      obtain ⟨h', x1, x2, x3⟩ := ih (k + 1) n _ (by omega) (by omega) (M.fr (Or.inr (Or.inl rfl)) F2) A2
      exact ⟨h', x1, x2, (F2.mono (E_g_sd (Or.inr (Or.inl rfl)) (by decide))).trans x3⟩
theorem B_keeps (hI : Inv i h) (v0 v1 : Int32) : ∃ r h1 h2, wu_keeps v0 v1 h = some (r, h1) ∧ mo_keeps v0 v1 h1 = some (r, h2) ∧ Inv (i + 5) h2 := by
  obtain ⟨P, T, K, Y, n, S, ev, I, r⟩ := hI
  obtain ⟨R, M, W, X, V, E, L⟩ := id I
  have h6 := W.1
  have h10 := W.2.1
  have e47 : ∀ hh, mo_keeps_47 hh = some (-1, hh) := fun hh => by unfold mo_keeps_47; rw [bc_m1]
  by_cases q : (B_is v0 P && B_is v1 T && decide (S 6 (B_n v1) = v0) && decide (S 8 (B_n v1) = 0)) = true
  · have q' := q
    simp only [Bool.and_eq_true, decide_eq_true_eq] at q'
    obtain ⟨⟨⟨q1, q2⟩, q3⟩, q4⟩ := q'
    obtain ⟨p, hp, rfl⟩ := B_is_ex q1 (by omega)
    obtain ⟨t, ht, rfl⟩ := B_is_ex q2 (by omega)
    rw [B_n_nI (by omega)] at q3 q4
    obtain ⟨L0, hL0, eL⟩ := W.2.2.2.2.2.2.2.2.1 t ht
    generalize hab : nI 1 <<< (nI p &&& 31) = ab
    have F0 : B_fr B_sc h (px_w h 22 6 ab) := (B_fr.refl _ h).w rfl
    have C0 : C_h h P T K Y S ev := ⟨R, L.1⟩
    obtain ⟨h5, k1, k2, k3⟩ := cr_kept_s (ab := ab) (t := t) (L := L0) (b := 0) (m := L0) ht (by omega) (by omega) (Nat.le_refl _) (B_w_same _ _ _ _) (C0.fr F0) W
    obtain ⟨h6', t1, t2, t3⟩ := tl_tell_s h5 (S_kv ev S ab t L0)
    have hcl : wu_keeps (nI p) (nI t) h = some (nI (S_kn ev S ab t L0), h6') := by
      have R0 := R.sm F0.sm_c
      unfold wu_keeps wu_keeps_80
      rw [hs_mayKeepBack_s _ _ R W, q, B_bind, if_neg (by decide), bc_1, hab]
      dsimp only
      rw [wa_8 (by omega), B_bind]
      rw [show (px_w h 22 6 ab) 8 t = nI L0 by rw [B_w_cell _ _ _ (by decide), R.2.2.2.2.2.2.2.2.1 t ht, eL], bc_60, px_min_nI (by omega) (by omega), Nat.min_eq_left (by omega), bc_0, ← nI_0, k1, B_bind]
      change (if nI L0 ≤ nI (S_kn ev S ab t L0) then _ else _) = _
      by_cases w : S_kn ev S ab t L0 < L0
      · rw [if_neg (nI_ge w (by omega)), show h5 22 13 = _ from k3 w]
        have : S_kv ev S ab t L0 = S_P ev S ab t (nI (S_kn ev S ab t L0)) (nI (L0 - S_kn ev S ab t L0)) (nI (0 + S_kn ev S ab t L0)) := if_pos w
        rw [this] at t1
        refine (congrArg (fun z => px_bind z _) t1).trans ?_
        rfl
      · have : S_kv ev S ab t L0 = 0 := if_neg w
        rw [this] at t1
        have lt := (B_first_le (S_bu ev S ab t L0 0) L0 0).2
        have w2 : L0 ≤ S_kn ev S ab t L0 := by omega
        rw [if_pos (nI_le w2 (by unfold S_kn; omega)), nI_0, t1, B_bind]
        rfl
    have FC : B_fr B_sc h h6' := (F0.trans (k2.mono E_k_sc)).trans (t3.mono B_frw_sc)
    have M2 : R_m (B_t0 h6') P T K Y S := (M.sm FC.sm_c).sm (B_t0_fr _).sm_d
    have L2 : E_m ((B_t0 h6') 51 26) ((B_t0 h6') 63) ev := by
      rw [B_t0_at _ (by decide), B_t0_row _ (by decide), B_sc_m FC (by decide), show h6' 63 = h 63 from funext fun k => B_sc_m FC (by decide)]
      exact L.2
    have FB : B_fr (E_g 68) (B_t0 h6') (B_cp (B_t0 h6') ((B_t0 h6') 52) 68 0) := B_cp_fr (fun _ => rfl)
    have A2 : R_a (B_cp (B_t0 h6') ((B_t0 h6') 52) 68 0) 68 P T (px_w S 4 t (nI (L0 - 0))) := by
      rw [Nat.sub_zero, ← eL, px_w_id rfl]
      exact B_cp_A M2.2 h6 h10 68
    have MH : M_h (B_t0 h6') P T K Y S ev := ⟨M2.1, L2⟩
    obtain ⟨h7, m1, m2, m3⟩ := mo_keeps_loop (p := p) (t := t) (L := L0) hp ht (by omega) W q3 L0 0 px_F _ (by omega) (px_F_lt (by omega)) (MH.fr (Or.inr (Or.inl rfl)) FB) A2
    rw [hab] at m1 m2
    refine ⟨nI (S_kn ev S ab t L0), h6', h7, hcl, ?_, B_q1 I FC ((B_t0_fr _).trans ((FB.mono (E_g_sd (Or.inr (Or.inl rfl)) (by decide))).trans m3)) t2 m2 (show 1 ≤ 10 by decide)⟩
    unfold mo_keeps
    show px_bind (mo_isPerson (nI p) (px_w h6' 51 14 (px_c 0))) _ = _
    rw [bc_0]
    show px_bind (mo_isPerson (nI p) (B_t0 h6')) _ = _
    rw [mo_isPerson_eq _ M2.1.1 h6, q1, B_bind, if_neg (by decide), mo_isThing_eq _ M2.1.2.1 h10, q2, B_bind, if_neg (by decide), bc_32, nI_add, po_52 (by omega), B_ift, nI_clamp (by omega), M2.2.2.2.2.2.1 t ht, if_pos q3, bc_22, nI_add, po_52 (by omega), B_ift, nI_clamp (by omega), M2.2.2.2.2.1 t ht, q4, bc_1, if_neg (by decide), ← bc_0, mo_lay_t (Or.inl rfl) (Or.inr (Or.inl rfl)) (by decide), B_bind, bc_0]
    exact m1
  · refine ⟨-1, h, B_t0 h, ?_, ?_, B_qr I r⟩
    · have q' : (B_is v0 P && B_is v1 T && decide (S 6 (B_n v1) = v0) && decide (S 8 (B_n v1) = 0)) = false := by simpa using q
      unfold wu_keeps
      rw [hs_mayKeepBack_s _ _ R W, q', B_bind, if_pos (show B_01 false = 0 from rfl), bc_m1]
    · have M2 : R_m (B_t0 h) P T K Y S := M.sm (B_t0_fr _).sm_d
      unfold mo_keeps
      rw [bc_0]
      show px_bind (mo_isPerson v0 (B_t0 h)) _ = _
      rw [mo_isPerson_eq _ M2.1.1 h6, B_bind, mo_isThing_eq _ M2.1.2.1 h10]
      cases q1 : B_is v0 P with
      | false => rw [if_pos (show B_01 false = 0 from rfl), e47]
      | true =>
        rw [if_neg (by decide), B_bind]
        cases q2 : B_is v1 T with
        | false => rw [if_pos (show B_01 false = 0 from rfl), e47]
        | true =>
          rw [q1, q2] at q
          obtain ⟨t, ht, rfl⟩ := B_is_ex q2 (by omega)
          rw [B_n_nI (by omega)] at q
          rw [if_neg (by decide), bc_32, nI_add, po_52 (by omega), B_ift, nI_clamp (by omega), M2.2.2.2.2.2.1 t ht]
          by_cases q3 : S 6 t = v0
          · rw [if_pos q3, bc_22, nI_add, po_52 (by omega), B_ift, nI_clamp (by omega), M2.2.2.2.2.1 t ht]
            rcases W.2.2.2.2.2.2.2.2.2.2.2.1 t ht with q4 | q4
            · exact absurd (by simp [q3, q4]) q
            · rw [q4, bc_1, if_pos rfl, e47]
          · rw [if_neg q3, e47]
end KEEPS
