/-! Layer B: the same in the reference -/
section LINE
variable {i : Nat} {h : pH} {P T K Y n : Nat} {S : pH} {ab : Int32} {sg : Nat → Nat}
def E_ln : Nat → Nat → Bool := fun a k => match a with
  | 51 => [11, 30].contains k
  | 65 => true
  | _ => false
def E_l0 : Nat → Nat → Bool := fun a k => match a with
  | 51 => Nat.beq k 30
  | 65 => true
  | _ => false
theorem E_l0_ln : ∀ a k, E_l0 a k = true → E_ln a k = true := fun a k e => by
  unfold E_l0 at e
  split at e
  · have := Nat.eq_of_beq_eq_true e
    subst this
    rfl
  · rfl
  · cases e
theorem R_m.ln {h' : pH} (M : R_m h P T K Y S) (f : B_fr E_ln h h') : R_m h' P T K Y S := by
  unfold R_m R_k R_a at *
  rw [f 51 4 rfl, f 51 6 rfl, f 51 2 rfl, f 51 1 rfl, f.row 54 (fun _ => rfl), f.row 52 (fun _ => rfl), f.row 55 (fun _ => rfl), f.row 56 (fun _ => rfl), f.row 57 (fun _ => rfl), f.row 53 (fun _ => rfl)]
  exact M
/-- a sign that is a thing's letter, or isn't -/
theorem B_byte_q {c : Nat} (hc : c < 256) : (decide ((0 : Int32).toInt ≤ (B_byte c - nI 113).toInt ∧ (B_byte c - nI 113).toInt ≤ (nI 9).toInt) = true → B_byte c - nI 113 = nI c - nI 113) ∧ (decide ((0 : Int32).toInt ≤ (B_byte c - nI 113).toInt ∧ (B_byte c - nI 113).toInt ≤ (nI 9).toInt) = false → B_is (nI c - nI 113) 10 = false) := by
  have hd : ∀ c, c < 256 → (decide ((0 : Int32).toInt ≤ (B_byte c - nI 113).toInt ∧ (B_byte c - nI 113).toInt ≤ (nI 9).toInt) = true → B_byte c - nI 113 = nI c - nI 113) ∧ (decide ((0 : Int32).toInt ≤ (B_byte c - nI 113).toInt ∧ (B_byte c - nI 113).toInt ≤ (nI 9).toInt) = false → B_is (nI c - nI 113) 10 = false) := by decide +kernel
  exact hd c hc
theorem B_is_up {x : Int32} {m k : Nat} (h : m ≤ k) (q : B_is x k = false) : B_is x m = false := by
  cases hq : B_is x m with
  | false => rfl
  | true =>
    have h1 := of_decide_eq_true hq
    have : B_is x k = true := decide_eq_true ⟨h1.1, by omega⟩
    rw [this] at q
    cases q
theorem mo_readLine0_loop {f b : Nat} (hn : n ≤ 80) (hf : f < 2 + K) (hb : b < 2) (W : R_w P T K Y S) (hsg : ∀ j, j < n → sg j < 256) : ∀ (m k nn : Nat) (r : List Nat) (h : pH), k + m = n → m < nn → R_m h P T K Y S → r_ok r T → r.length = k → M_row h r → (∀ j, j < n → h 58 j = B_byte (sg j)) → ∃ h', mo_readLine0_26 nn ab (nI f) (nI b) (nI n) (nI k) h = some (if (S_rd S T ab sg m k r).1 = 0 then (if S_dist S Y f b ≤ S_wds S (S_rd S T ab sg m k r).2 then 0 else -200) else (S_rd S T ab sg m k r).1, h') ∧ M_row h' (S_rd S T ab sg m k r).2 ∧ B_fr E_l0 h h' := by
  intro m
  induction m with
  | zero =>
    intro k nn r h hk hn2 M hr hrk C es
    obtain ⟨nn, rfl⟩ : ∃ n', nn = n' + 1 := ⟨nn - 1, by omega⟩
    have hkn : k = n := by omega
    subst hkn
    refine ⟨h, ?_, C, B_fr.refl _ _⟩
    unfold S_rd
    show (if nI k ≤ nI k then (if nI k = 0 then _ else _) else _) = _
    rw [if_pos (nI_le (Nat.le_refl _) (by omega))]
    by_cases q : k = 0
    · rw [if_pos (by rw [q, nI_0]), if_pos q, bc_m1]
      rfl
    · have l1 := S_yd_le W hf
      have l2 := S_yd_le W (show b < 2 + K by omega)
      have hD : S_dist S Y f b ≤ 60 := by unfold S_dist; omega
      have hw : S_wds S r ≤ 240 := by
        have := S_wds_le W hr.1
        rw [← S_wds_eq] at this
        have := hr.2.2
        omega
      rw [if_neg (nI_ne0 (by omega) (by omega)), if_neg q, mo_wordsIn_s (a := 52) rfl rfl hr.1 C M.2 W, B_bind, mo_distance_s hf (show b < 2 + K by omega) M.1 W, B_bind]
      unfold mo_readLine0_140
      rw [bc_0, bc_m200]
      show _ = some (if (0 : Int32) = 0 then _ else _, _)
      rw [if_pos rfl]
      by_cases qw : S_dist S Y f b ≤ S_wds S r
      · rw [if_pos (nI_le qw (by omega)), if_pos qw]
      · rw [if_neg (nI_ge (by omega) (by omega)), if_neg qw]
  | succ m ih =>
    intro k nn r h hk hn2 M hr hrk C es
    obtain ⟨nn, rfl⟩ : ∃ n', nn = n' + 1 := ⟨nn - 1, by omega⟩
    have h10 := W.2.1
    have e58 := es k (by omega)
    have hbq := B_byte_q (hsg k (by omega))
    have e77 : mo_readLine0_77 (nI k) h = some (-1 - nI k, h) := by
      unfold mo_readLine0_77
      rw [bc_m1]
    have hne : ∀ k : Nat, k < 7 → ¬ (-1 - nI k : Int32) = 0 := by decide
    have hk6 : k < 7 := by have := hr.2.2; omega
    have hz : mo_readLine0_26 (nn + 1) ab (nI f) (nI b) (nI n) (nI k) h = if nI k = nI 6 then mo_readLine0_77 (nI k) h else px_bind (mo_in (B_byte (sg k) - nI 113) 0 (nI 9) h) fun z6 h7 => if z6 = 0 then mo_readLine0_77 (nI k) h7 else px_bind (mo_canLine 52 (B_byte (sg k) - nI 113) ab h7) fun z8 h9 => if z8 = 0 then mo_readLine0_77 (nI k) h9 else px_if (px_ok 0 65 (h9 51 30)) (mo_readLine0_103 (mo_readLine0_26 nn) ab (nI f) (nI b) (nI n) (nI k) (px_w (px_w h9 65 (h9 51 30).toNatClampNeg (B_byte (sg k) - nI 113)) 51 30 ((px_w h9 65 (h9 51 30).toNatClampNeg (B_byte (sg k) - nI 113)) 51 30 + px_c 1))) := by
      show (if nI n ≤ nI k then _ else px_if (px_ok 1 58 (nI k) || px_ok 3 58 (nI k)) _) = _
      rw [if_neg (nI_ge (by omega) (by omega)), po_58 (by omega), Bool.true_or, B_ift, nI_clamp (by omega), e58, bc_113, bc_6, bc_0, bc_9]
    rw [hz]
    unfold S_rd
    by_cases q : (decide (r.length < 6) && S_can S T ab r (nI (sg k) - nI 113)) = true
    · rw [if_pos q]
      rw [Bool.and_eq_true, decide_eq_true_eq] at q
      obtain ⟨t, ht, e, hnr, -, -⟩ := S_can_ex W q.2
      have hin : decide ((0 : Int32).toInt ≤ (B_byte (sg k) - nI 113).toInt ∧ (B_byte (sg k) - nI 113).toInt ≤ (nI 9).toInt) = true := by
        cases hq : decide ((0 : Int32).toInt ≤ (B_byte (sg k) - nI 113).toInt ∧ (B_byte (sg k) - nI 113).toInt ≤ (nI 9).toInt) with
        | true => rfl
        | false =>
          have := B_is_up h10 (hbq.2 hq)
          rw [e, B_is_t ht (by omega)] at this
          cases this
      have ex := hbq.1 hin
      have hcl := mo_canLine_s (a := 52) (ab := ab) (B_byte (sg k) - nI 113) rfl rfl (r_in_small hr.1 h10) C M.1 M.2 W
      have q2 := q.2
      rw [e] at q2
      rw [if_neg (fun w => by have := (nI_eq (by omega) (by omega)).mp w; omega), mo_in_eq, hin, B_bind, if_neg (by decide), hcl, ex, e, q2, B_bind, if_neg (by decide), B_n_nI (by omega), C.1, po_65 (by omega), B_ift, nI_clamp (by omega)]
      have F : B_fr E_l0 h (px_w (px_w h 65 r.length (nI t)) 51 30 (nI (r.length + 1))) := ((B_fr.refl _ h).w rfl).w rfl
      obtain ⟨h', i1, i2, i3⟩ := ih (k + 1) nn (r ++ [t]) (px_w (px_w h 65 r.length (nI t)) 51 30 (nI (r.length + 1))) (by omega) (by omega) (M.ln (F.mono E_l0_ln)) (r_ok_app hr ht hnr q.1) (by rw [List.length_append, List.length_singleton]; omega) ⟨by rw [B_w_same, List.length_append, List.length_singleton], by rw [List.length_append, List.length_singleton]; omega, fun j hj => by
        rw [B_w_cell _ _ _ (by decide), B_w_at, B_getD_app2 r t hj]
        split
        · rfl
        · rw [List.length_append, List.length_singleton] at hj
          exact C.2.2 j (by omega)⟩ (fun j hj => by rw [F 58 j rfl]; exact es j hj)
      refine ⟨h', ?_, i2, F.trans i3⟩
      rw [← i1]
      unfold mo_readLine0_103
      rw [bc_1, B_w_cell _ _ _ (show (51 : Nat) ≠ 65 by decide), C.1, nI_add, nI_add]
    · rw [if_neg q]
      refine ⟨h, ?_, C, B_fr.refl _ _⟩
      show _ = some (if -1 - nI k = 0 then _ else -1 - nI k, h)
      rw [if_neg (hne k hk6)]
      by_cases q6 : k = 6
      · rw [if_pos (by rw [q6]), e77]
      · rw [if_neg (fun w => q6 ((nI_eq (by omega) (by omega)).mp w)), mo_in_eq, B_bind]
        cases hq : decide ((0 : Int32).toInt ≤ (B_byte (sg k) - nI 113).toInt ∧ (B_byte (sg k) - nI 113).toInt ≤ (nI 9).toInt) with
        | false => rw [if_pos (show B_01 false = 0 from rfl), e77]
        | true =>
          have hcl := mo_canLine_s (a := 52) (ab := ab) (B_byte (sg k) - nI 113) rfl rfl (r_in_small hr.1 h10) C M.1 M.2 W
          have ex := hbq.1 hq
          rw [if_neg (by decide), hcl, ex]
          have : S_can S T ab r (nI (sg k) - nI 113) = false := by
            rw [Bool.and_eq_true, decide_eq_true_eq] at q
            cases hc : S_can S T ab r (nI (sg k) - nI 113) with
            | false => rfl
            | true => exact absurd ⟨by omega, hc⟩ q
          rw [this, B_bind, if_pos (show B_01 false = 0 from rfl), e77]
/-- the reference's: who, whereto, the row -/
theorem mo_readLine0_s (x1 x2 x3 : Int32) (hn : n ≤ 80) (e11 : h 51 11 = nI n) (hsg : ∀ j, j < n → sg j < 256) (es : ∀ j, j < n → h 58 j = B_byte (sg j)) (M : R_m h P T K Y S) (W : R_w P T K Y S) : ∃ h', mo_readLine0 (if S_beg S P x1 x2 x3 = true then S_abd x1 x2 else 0) (if S_beg S P x1 x2 x3 = true then S 1 (B_n x1) else 0) x3 h = some (S_emb S P T Y n sg x1 x2 x3, h') ∧ h' 51 11 = 0 ∧ B_fr E_ln h h' ∧ (S_emb S P T Y n sg x1 x2 x3 = 0 → M_row h' (S_rd S T (S_abd x1 x2) sg n 0 []).2) := by
  have h5 := W.2.2.1
  have h6 := W.1
  unfold mo_readLine0 S_emb
  cases q : S_beg S P x1 x2 x3 with
  | false =>
    simp only [Bool.false_eq_true, if_false, if_true, bc_0, bc_m100]
    exact ⟨px_w h 51 11 0, rfl, B_w_same _ _ _ _, (B_fr.refl _ h).w rfl, fun q => absurd q (by decide)⟩
  | true =>
    obtain ⟨p, b, f, hp, hb, hf, rfl, rfl, ef, hfb, -⟩ := S_beg_ex W q
    rw [if_pos rfl, if_pos rfl, if_pos rfl, if_neg (S_abd_ne (by omega) x2), bc_0, B_n_nI (show p < 2 ^ 31 by omega), B_n_nI (show b < 2 ^ 31 by omega), ef, B_n_nI (show f < 2 ^ 31 by omega)]
    have F : B_fr E_ln h (px_w (px_w h 51 11 0) 51 30 0) := ((B_fr.refl _ h).w rfl).w rfl
    obtain ⟨h', i1, i2, i3⟩ := mo_readLine0_loop (S := S) (sg := sg) (ab := S_abd (nI p) x2) (n := n) hn hf hb W hsg n 0 px_F [] (px_w (px_w h 51 11 0) 51 30 0) (by omega) (px_F_lt (by omega)) (M.ln F) (r_ok_nil T) rfl ⟨by rw [B_w_same]; rfl, by simp, fun k hk => absurd hk (by simp)⟩ (fun j hj => by rw [F 58 j rfl]; exact es j hj)
    refine ⟨h', ?_, ?_, F.trans (i3.mono E_l0_ln), fun _ => i2⟩
    · unfold mo_readLine0_23
      dsimp only
      rw [e11, bc_0, ← nI_0]
      rw [← nI_0] at i1
      exact i1
    · rw [i3 51 11 rfl, B_w_at, if_neg (by decide), B_w_same]
end LINE
