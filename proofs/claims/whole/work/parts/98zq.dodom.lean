/-! Layer B: day: an act is done, the other side -/
section DODOM
variable {h : pH} {P T K Y q : Nat} {Z : pH} {ev : pE} {ab : Int32} {a : dA}
def E_dm : Nat → Nat → Bool := fun a k => match a with
  | 51 => [15, 16, 17, 18, 19, 27, 30, 31, 32, 33, 39].contains k
  | 52 => true
  | 64 => true
  | 65 => true
  | _ => false
theorem E_l0_dm : ∀ a k, E_l0 a k = true → E_dm a k = true := fun a k e => by
  unfold E_l0 at e
  split at e
  · have := Nat.eq_of_beq_eq_true e
    subst this
    rfl
  · rfl
  · cases e
theorem E_g_dm : ∀ a k, E_g 52 a k = true → E_dm a k = true := fun a k e => by
  unfold E_g at e
  split at e
  · have : k = 15 ∨ k = 16 ∨ k = 17 ∨ k = 18 ∨ k = 19 ∨ k = 27 ∨ k = 31 ∨ k = 32 ∨ k = 33 := by simpa using e
    rcases this with rfl | rfl | rfl | rfl | rfl | rfl | rfl | rfl | rfl <;> rfl
  · rfl
  · have := Nat.eq_of_beq_eq_true e
    subst this
    rfl
theorem E_l0_sd : ∀ a k, E_l0 a k = true → B_sd a k = true := fun a k e => by
  unfold E_l0 at e
  split at e
  · have := Nat.eq_of_beq_eq_true e
    subst this
    rfl
  · rfl
  · cases e
/-- behind the row -/
noncomputable def d_goes (x2 x4 x5 : Int32) (h : pH) : pR := px_bind (mo_wordsIn 52 h) fun z1 h2 => px_if (px_ok 0 52 x2) <| px_bind (mo_distance (h2 52 x2.toNatClampNeg) x4 h2) fun z3 h4 => if z3 ≤ z1 then px_if (px_ok 0 52 x2) <| px_bind (mo_goes 52 x5 (h4 52 x2.toNatClampNeg) x4 h4) fun z5 h6 => if z5 = 0 then mo_actCross_156 (px_w h6 51 39 ((h6 51 39) + (nI 1))) else mo_actCross_156 h6 else px_bz 0 h4
theorem mo_actCross_25_s {x2 x4 : Int32} (W : R_w P T K Y Z) (hq : q < 60) : ∀ (l r : List Nat) (g : Nat) (h : pH), R_m h P T K Y Z → M_row h r → r_ok r T → r.length + l.length ≤ 6 → h 69 (11 * q + 4) = nI (r.length + l.length) → (∀ i, i < l.length → h 69 (11 * q + 5 + (r.length + i)) = nI (l.getD i 0)) → (∀ t, t ∈ l → t < 10) → l.length < g → (S_tk Z T ab l r = false → ∃ h', mo_actCross_25 g (nI (11 * q)) x2 x4 ab (nI r.length) h = some (0, h') ∧ B_fr E_l0 h h') ∧ (S_tk Z T ab l r = true → ∃ h', mo_actCross_25 g (nI (11 * q)) x2 x4 ab (nI r.length) h = d_goes x2 x4 ab h' ∧ M_row h' (r ++ l) ∧ B_fr E_l0 h h') := by
  intro l
  induction l with
  | nil =>
    intro r g h M C hr hl e1 e44 _ hg
    obtain ⟨g, rfl⟩ : ∃ n', g = n' + 1 := ⟨g - 1, by omega⟩
    refine ⟨(fun q => by cases q), fun _ => ⟨h, ?_, by rw [List.append_nil]; exact C, B_fr.refl _ _⟩⟩
    have hl' : r.length ≤ 6 := hr.2.2
    show px_if (px_ok 0 69 (nI (11 * q) + px_c 4)) _ = _
    rw [bc_4, nI_add, po_69 (by omega), B_ift, nI_clamp (by omega), e1, List.length_nil, Nat.add_zero, if_pos (nI_le (Nat.le_refl _) (by omega)), bc_1, bc_0]
    rfl
  | cons t l ih =>
    intro r g h M C hr hl e1 e44 h10l hg
    obtain ⟨g, rfl⟩ : ∃ n', g = n' + 1 := ⟨g - 1, by omega⟩
    have h10 := W.2.1
    have h10t := h10l t (List.mem_cons_self ..)
    rw [List.length_cons] at hl e1 hg
    have et : h 69 (11 * q + 5 + r.length) = nI t := e44 0 (by rw [List.length_cons]; omega)
    have hct := mo_canLine_s (a := 52) (ab := ab) (nI t) rfl rfl (r_in_small hr.1 h10) C M.1 M.2 W
    have hz : mo_actCross_25 (g + 1) (nI (11 * q)) x2 x4 ab (nI r.length) h = if S_can Z T ab r (nI t) = true then mo_actCross_25 g (nI (11 * q)) x2 x4 ab (nI (r.length + 1)) (px_w (px_w h 65 r.length (nI t)) 51 30 (nI (r.length + 1))) else some (0, h) := by
      show px_if (px_ok 0 69 (nI (11 * q) + px_c 4)) _ = _
      rw [bc_4, nI_add, po_69 (by omega), B_ift, nI_clamp (by omega), e1, if_neg (nI_ge (by omega) (by omega)), bc_5, nI_add, nI_add, po_69 (by omega), B_ift, nI_clamp (by omega), et, hct, B_bind, bc_0, bc_1]
      cases S_can Z T ab r (nI t) with
      | false => rw [if_pos (show B_01 false = 0 from rfl), if_neg (by decide), B_bz0]
      | true =>
        rw [if_neg (show ¬ B_01 true = 0 by decide), if_pos rfl, B_ift, C.1, po_65 (by omega), B_ift, nI_clamp (by omega)]
        unfold mo_actCross_94
        dsimp only
        rw [B_w_cell _ _ _ (show (51 : Nat) ≠ 65 by decide), C.1, bc_1, nI_add, et]
    rw [hz]
    show ((S_can Z T ab r (nI t) && S_tk Z T ab l (r ++ [t])) = false → _) ∧ ((S_can Z T ab r (nI t) && S_tk Z T ab l (r ++ [t])) = true → _)
    cases hc : S_can Z T ab r (nI t) with
    | false =>
      refine ⟨fun _ => ⟨h, ?_, B_fr.refl _ _⟩, fun q => by cases q⟩
      rw [if_neg (by decide)]
    | true =>
      rw [if_pos rfl, Bool.true_and]
      obtain ⟨t', ht, e, hn, -, -⟩ := S_can_ex W hc
      have htt : t = t' := (nI_eq (by omega) (by omega)).mp e
      subst htt
      have F : B_fr E_l0 h (px_w (px_w h 65 r.length (nI t)) 51 30 (nI (r.length + 1))) := ((B_fr.refl _ h).w rfl).w rfl
      have l1 : (r ++ [t]).length = r.length + 1 := by rw [List.length_append, List.length_singleton]
      obtain ⟨i1, i2⟩ := ih (r ++ [t]) g _ (M.sm (F.mono E_l0_sd).sm_d) (C.snoc (by omega)) (r_ok_app hr ht hn (by omega)) (by omega) (by rw [F 69 _ rfl, e1, l1]; congr 1; omega) (fun i hi => by
        rw [F 69 _ rfl, l1, show r.length + 1 + i = r.length + (i + 1) by omega]
        exact e44 (i + 1) (by rw [List.length_cons]; omega)) (fun t ht => h10l t (List.mem_cons_of_mem _ ht)) (by omega)
      rw [l1] at i1 i2
      refine ⟨fun q => ?_, fun q => ?_⟩
      · obtain ⟨h', a1, a2⟩ := i1 q
        exact ⟨h', a1, F.trans a2⟩
      · obtain ⟨h', a1, a2, a3⟩ := i2 q
        rw [List.append_assoc] at a2
        exact ⟨h', a1, a2, F.trans a3⟩
theorem R_m.row52 {h' : pH} {Z2 : pH} (M : R_m h P T K Y Z) (A : R_a h' 52 P T Z2) (hZ : ∀ i k, i ≠ 1 → i ≠ 2 → i ≠ 4 → i ≠ 6 → i ≠ 8 → i ≠ 9 → Z2 i k = Z i k) (F : B_fr E_dm h h') : R_m h' P T K Y Z2 := by
  refine ⟨?_, A⟩
  refine (M.1.st hZ).cs (fun k hk => ?_) (fun a h1 h2 => F.row a (fun k => ?_))
  · rcases hk with rfl | rfl | rfl | rfl
    · exact F 51 1 rfl
    · exact F 51 2 rfl
    · exact F 51 4 rfl
    · exact F 51 6 rfl
  · unfold E_dm
    split
    all_goals (first | rfl | (exfalso; omega))
theorem d_two (ha : d_ok a) (hq : q < 60) (M : R_m h P T K Y Z) (E : E_m (h 51 26) (h 63) ev) (W : R_w P T K Y Z) (A : M_act h (11 * q) a) : ∃ h', B_fr E_dm h h' ∧ ((S_do ev P T K Y Z a = none ∧ mo_act (nI (11 * q)) h = some (0, h') ∧ R_m h' P T K Y Z ∧ h' 51 39 = h 51 39) ∨ (∃ Z2 b, S_do ev P T K Y Z a = some (Z2, b) ∧ mo_act (nI (11 * q)) h = some (nI 1, h') ∧ R_m h' P T K Y Z2 ∧ h' 51 39 = h 51 39 + nI b)) := by
  have h6 := W.1
  have h10 := W.2.1
  have h5 := W.2.2.1
  obtain ⟨A0, A1, A3, A2, A99⟩ := A
  have hp6 := ha.2.1
  have ht10 := ha.2.2.1
  have hkk := ha.1
  have e118 : px_c 118 = nI 118 := bc_118
  have ez : ∀ x : Int32, x + nI 0 = x := fun x => by rw [nI_0, Int32.add_zero]
  have hz : mo_act (nI (11 * q)) h = if a.1 = 99 then px_bind (mo_actCross (nI (11 * q)) (nI a.2.1) a.2.2.1 (nI a.2.2.2.1) h) fun z4 h5 => px_bz z4 h5 else if a.1 = 115 then px_bind (mo_refusesSay (nI a.2.1) (nI a.2.2.2.1) h) fun z6 h7 => if 0 ≤ z6 then px_bind (mo_goSay (nI a.2.1) (nI a.2.2.2.1) h7) fun _ h9 => some (nI 1, h9) else some (0, h7) else if a.1 = 118 then px_bind (mo_refusesSell (nI a.2.1) a.2.2.1 (nI a.2.2.2.1) h) fun z10 h11 => if 0 ≤ z10 then px_bind (mo_goSell (nI a.2.1) a.2.2.1 (nI a.2.2.2.1) h11) fun _ h13 => some (nI 1, h13) else some (0, h11) else px_bind (mo_refusesWhisper (nI a.2.1) a.2.2.1 (nI a.2.2.2.1) h) fun z14 h15 => if 0 ≤ z14 then px_bind (mo_goWhisper a.2.2.1 (nI a.2.2.2.1) h15) fun _ h17 => some (nI 1, h17) else some (0, h15) := by
    unfold mo_act
    rw [bc_1, bc_2, bc_3, nI_add, nI_add, nI_add, po_69 (by omega), B_ift, po_69 (by omega), B_ift, po_69 (by omega), B_ift, po_69 (by omega), B_ift, nI_clamp (by omega), nI_clamp (by omega), nI_clamp (by omega), nI_clamp (by omega), A0, A1, A3, bc_99, bc_115, e118, bc_0]
    try dsimp only
    by_cases k9 : a.1 = 99
    · rw [if_pos (show nI a.1 = nI 99 by rw [k9]), if_pos k9, A2 (by omega)]
    rw [if_neg (show ¬ nI a.1 = nI 99 from fun w => k9 ((nI_eq (by omega) (by omega)).mp w)), if_neg k9]
    by_cases k5 : a.1 = 115
    · rw [if_pos (show nI a.1 = nI 115 by rw [k5]), if_pos k5]
      rfl
    rw [if_neg (show ¬ nI a.1 = nI 115 from fun w => k5 ((nI_eq (by omega) (by omega)).mp w)), if_neg k5, A2 k5]
    by_cases k8 : a.1 = 118
    · rw [if_pos (show nI a.1 = nI 118 by rw [k8]), if_pos k8]
      rfl
    rw [if_neg (show ¬ nI a.1 = nI 118 from fun w => k8 ((nI_eq (by omega) (by omega)).mp w)), if_neg k8]
    rfl
  by_cases hk : a.1 = 99
  · obtain ⟨A4, A5⟩ := A99 hk
    have hl6 := ha.2.2.2.2.2.1
    have hab := mo_aboardOf_s (nI a.2.1) a.2.2.1 (nI a.2.2.2.1) M W
    rw [if_pos hk] at hz
    have hac : mo_actCross (nI (11 * q)) (nI a.2.1) a.2.2.1 (nI a.2.2.2.1) h = if S_beg Z P (nI a.2.1) a.2.2.1 (nI a.2.2.2.1) = true then mo_actCross_25 px_F (nI (11 * q)) (nI a.2.1) (nI a.2.2.2.1) (S_abd (nI a.2.1) a.2.2.1) 0 (px_w h 51 30 0) else some (0, h) := by
      unfold mo_actCross
      rw [hab, B_bind, bc_0]
      by_cases q1 : S_beg Z P (nI a.2.1) a.2.2.1 (nI a.2.2.2.1) = true
      · rw [if_pos q1, if_pos q1, if_neg (S_abd_ne (by omega) _)]
      · rw [if_neg q1, if_neg q1, if_pos rfl, B_bz0]
    rw [hac] at hz
    by_cases q1 : S_beg Z P (nI a.2.1) a.2.2.1 (nI a.2.2.2.1) = true
    · rw [if_pos q1] at hz
      obtain ⟨p, b', f, hp, hb, hf, e1, e3, ef, hfb, -⟩ := S_beg_ex W q1
      have e1' : a.2.1 = p := (nI_eq (by omega) (by omega)).mp e1
      have e3' : a.2.2.2.1 = b' := (nI_eq (by omega) (by omega)).mp e3
      have hb2 : a.2.2.2.1 < 2 := by omega
      have ef' : Z 1 a.2.1 = nI f := by rw [e1', ef]
      have efn : B_n (Z 1 a.2.1) = f := by rw [ef', B_n_nI (by omega)]
      have F1 : B_fr E_l0 h (px_w h 51 30 0) := (B_fr.refl _ h).w rfl
      have Cr0 : M_row (px_w h 51 30 0) [] := ⟨B_w_same _ _ _ _, by simp, fun k hk => absurd hk (by simp)⟩
      obtain ⟨s1, s2⟩ := mo_actCross_25_s (ab := S_abd (nI a.2.1) a.2.2.1) (x2 := nI a.2.1) (x4 := nI a.2.2.2.1) W hq a.2.2.2.2 [] px_F (px_w h 51 30 0) (M.sm (F1.mono E_l0_sd).sm_d) Cr0 (r_ok_nil T) (by simpa using hl6) (by rw [B_w_cell _ _ _ (by decide), A4]; simp) (fun i hi => by rw [B_w_cell _ _ _ (by decide)]; simpa using A5 i hi) (d_mem ha) (px_F_lt (by omega))
      have e0 : nI ([] : List Nat).length = 0 := rfl
      rw [e0] at s1 s2
      by_cases q2 : S_tk Z T (S_abd (nI a.2.1) a.2.2.1) a.2.2.2.2 [] = true
      · obtain ⟨h3, b1, b2, b3⟩ := s2 q2
        rw [List.nil_append] at b2
        have F3 : B_fr E_l0 h h3 := F1.trans b3
        have hr := S_tk_ok W a.2.2.2.2 [] (r_ok_nil T) (by simpa using hl6) (d_mem ha) q2
        rw [List.nil_append] at hr
        have M3 : R_m h3 P T K Y Z := M.sm (F3.mono E_l0_sd).sm_d
        have hw := mo_wordsIn_s (a := 52) rfl rfl hr.1 b2 M3.2 W
        have hw240 : S_wds Z a.2.2.2.2 ≤ 240 := by
          have := S_wds_le W hr.1
          rw [← S_wds_eq] at this
          omega
        have hD : S_dist Z Y f a.2.2.2.1 ≤ 60 := by
          have l1 := S_yd_le W hf
          have l2 := S_yd_le W (show a.2.2.2.1 < 2 + K by omega)
          unfold S_dist
          omega
        have hg : d_goes (nI a.2.1) (nI a.2.2.2.1) (S_abd (nI a.2.1) a.2.2.1) h3 = if S_dist Z Y f a.2.2.2.1 ≤ S_wds Z a.2.2.2.2 then px_bind (mo_goes 52 (S_abd (nI a.2.1) a.2.2.1) (nI f) (nI a.2.2.2.1) h3) fun z5 h6 => if z5 = 0 then some (nI 1, px_w h6 51 39 ((h6 51 39) + (nI 1))) else some (nI 1, h6) else some (0, h3) := by
          have e156 : ∀ hx, mo_actCross_156 hx = some (nI 1, hx) := fun hx => by
            unfold mo_actCross_156
            rw [bc_1, B_bz1]
          unfold d_goes
          rw [hw, B_bind, po_52 (by omega), B_ift, nI_clamp (by omega), M3.2.1 a.2.1 (by omega), ef', mo_distance_s hf (show a.2.2.2.1 < 2 + K by omega) M3.1 W, B_bind, B_ift, M3.2.1 a.2.1 (by omega), ef', B_bz0]
          simp only [e156]
          by_cases w : S_dist Z Y f a.2.2.2.1 ≤ S_wds Z a.2.2.2.2
          · rw [if_pos w, if_pos (nI_le w (by omega))]
          · rw [if_neg w, if_neg (nI_ge (by omega) (by omega))]
        rw [b1, hg] at hz
        by_cases q3 : S_dist Z Y f a.2.2.2.1 ≤ S_wds Z a.2.2.2.2
        · rw [if_pos q3] at hz
          have M3h : M_h h3 P T K Y Z ev := ⟨M3.1, by
            rw [F3 51 26 rfl, F3.row 63 (fun _ => rfl)]
            exact E⟩
          obtain ⟨h4, n1, n2, n3, n4, n5⟩ := mo_goes_s (ab := S_abd (nI a.2.1) a.2.2.1) (Or.inl rfl) hf hb2 W hr.1 hr.2.1 rfl q3 M3h M3.2 b2
          have eX : S_dX ev Z Y a = S_go ev Z (S_dist Z Y f a.2.2.2.1) (S_abd (nI a.2.1) a.2.2.1) a.2.2.2.2 := by
            unfold S_dX
            rw [efn]
          rw [← eX] at n1 n2
          have F4 : B_fr E_dm h h4 := (F3.mono E_l0_dm).trans (n5.mono E_g_dm)
          have edo : S_do ev P T K Y Z a = some (S_fin Z Y K (S_abd (nI a.2.1) a.2.2.1) f a.2.2.2.1 (S_dX ev Z Y a), if (S_dX ev Z Y a).2.1 = none then 0 else 1) := by
            unfold S_do
            rw [if_pos hk, if_pos ⟨q1, q2, by rw [efn]; exact q3⟩, efn]
          have e39 : h4 51 39 = h 51 39 := by rw [n5 51 39 rfl, F3 51 39 rfl]
          have hZ := (S_do_W ha W edo).2.1
          rw [n1, B_bind] at hz
          by_cases w : (S_dX ev Z Y a).2.1 = none
          · rw [if_pos w, if_neg (show ¬ nI 1 = 0 by decide), B_bind, B_bz1] at hz
            refine ⟨h4, F4, Or.inr ⟨_, 0, by rw [edo, if_pos w], hz, M.row52 n2 hZ F4, by rw [e39, ez]⟩⟩
          · rw [if_neg w, if_pos rfl, B_bind, B_bz1] at hz
            have F5 : B_fr E_dm h (px_w h4 51 39 (h4 51 39 + nI 1)) := F4.w rfl
            refine ⟨_, F5, Or.inr ⟨_, 1, by rw [edo, if_neg w], hz, M.row52 (n2.cell (B_w_cell _ _ _ (by decide))) hZ F5, by rw [B_w_same, e39]⟩⟩
        · rw [if_neg q3, B_bind, B_bz0] at hz
          refine ⟨h3, F3.mono E_l0_dm, Or.inl ⟨?_, hz, M3, F3 51 39 rfl⟩⟩
          unfold S_do
          rw [if_pos hk, if_neg (fun w => q3 (by
            have := w.2.2
            rw [efn] at this
            exact this))]
      · obtain ⟨h3, b1, b2⟩ := s1 (Bool.eq_false_iff.mpr q2)
        have F3 : B_fr E_l0 h h3 := F1.trans b2
        rw [b1, B_bind, B_bz0] at hz
        refine ⟨h3, F3.mono E_l0_dm, Or.inl ⟨?_, hz, M.sm (F3.mono E_l0_sd).sm_d, F3 51 39 rfl⟩⟩
        unfold S_do
        rw [if_pos hk, if_neg (fun w => q2 w.2.1)]
    · rw [if_neg q1, B_bind, B_bz0] at hz
      refine ⟨h, B_fr.refl _ _, Or.inl ⟨?_, hz, M, rfl⟩⟩
      unfold S_do
      rw [if_pos hk, if_neg (fun w => q1 w.1)]
  · rw [if_neg hk] at hz
    have hdo := fun (Z2 : pH) (b : Nat) (e : S_do ev P T K Y Z a = some (Z2, b)) => (S_do_W ha W e).2.1
    by_cases k5 : a.1 = 115
    · rw [if_pos k5, mo_refusesSay_s _ _ M W, B_bind] at hz
      by_cases w : 0 ≤ S_nsay Z P T (nI a.2.1) (nI a.2.2.2.1)
      · rw [if_pos w] at hz
        have edo : S_do ev P T K Y Z a = some (S_tl Z a.2.2.2.1 (S_hear Z P a.2.1 a.2.2.2.1), 0) := by
          unfold S_do
          rw [if_neg hk, if_pos k5, if_pos w]
        obtain ⟨p, t, hp, ht, e1, e3, ew⟩ := S_nsay_0 W w
        have e1' : a.2.1 = p := (nI_eq (by omega) (by omega)).mp e1
        have e3' : a.2.2.2.1 = t := (nI_eq (by omega) (by omega)).mp e3
        have hZ := hdo _ _ edo
        rw [e1', e3'] at hz edo hZ
        rw [mo_goSay_s hp ht ew M W, B_bind] at hz
        have F : B_fr E_dm h (px_w (px_w h 52 (22 + t) (nI 1)) 52 (42 + t) (Z 9 t ||| S_hear Z P p t)) := ((B_fr.refl _ h).w rfl).w rfl
        exact ⟨_, F, Or.inr ⟨_, 0, edo, hz, M.row52 ((M.2.w8 h6 h10 (p := t) (by omega) (nI 1)).w9 h6 h10 (p := t) (by omega) (Z 9 t ||| S_hear Z P p t)) hZ F, by rw [B_w_cell _ _ _ (by decide), B_w_cell _ _ _ (by decide), ez]⟩⟩
      · rw [if_neg w] at hz
        refine ⟨h, B_fr.refl _ _, Or.inl ⟨?_, hz, M, rfl⟩⟩
        unfold S_do
        rw [if_neg hk, if_pos k5, if_neg w]
    · rw [if_neg k5] at hz
      by_cases k8 : a.1 = 118
      · rw [if_pos k8, mo_refusesSell_s _ _ _ M W, B_bind] at hz
        by_cases w : 0 ≤ S_nsell Z P T (nI a.2.1) a.2.2.1 (nI a.2.2.2.1)
        · rw [if_pos w] at hz
          have edo : S_do ev P T K Y Z a = some (S_sold Z a.2.1 (B_n a.2.2.1) a.2.2.2.1, 0) := by
            unfold S_do
            rw [if_neg hk, if_neg k5, if_pos k8, if_pos w]
          obtain ⟨p, o, t, hp, ho, ht, e1, e2, e3, hpo, q1, q2⟩ := S_nsell_0 W w
          have e1' : a.2.1 = p := (nI_eq (by omega) (by omega)).mp e1
          have e3' : a.2.2.2.1 = t := (nI_eq (by omega) (by omega)).mp e3
          have hZ := hdo _ _ edo
          rw [e1', e3', e2] at hz
          rw [e1', e3', e2, B_n_nI (by omega)] at edo hZ
          rw [mo_goSell_s hp ho ht hpo M W, B_bind] at hz
          have F : B_fr E_dm h (px_w (px_w (px_w (px_w h 52 (6 + o) (Z 2 o - S_price Z t)) 52 (6 + p) (Z 2 p + S_price Z t)) 52 (32 + t) (nI o)) 52 (42 + t) (Z 9 t ||| (nI 1 <<< (nI o &&& 31)))) := ((((B_fr.refl _ h).w rfl).w rfl).w rfl).w rfl
          have A := (((M.2.w2 h6 (p := o) (by omega) (Z 2 o - S_price Z t)).w2 h6 (p := p) (by omega) (Z 2 p + S_price Z t)).w6 h6 h10 (p := t) (by omega) (nI o)).w9 h6 h10 (p := t) (by omega) (Z 9 t ||| (nI 1 <<< (nI o &&& 31)))
          rw [px_w_comm2 Z (a := 2) (b := 2) (k := o) (j := p) _ _ (fun q => hpo q.symm)] at A
          exact ⟨_, F, Or.inr ⟨_, 0, edo, hz, M.row52 A hZ F, by rw [B_w_cell _ _ _ (by decide), B_w_cell _ _ _ (by decide), B_w_cell _ _ _ (by decide), B_w_cell _ _ _ (by decide), ez]⟩⟩
        · rw [if_neg w] at hz
          refine ⟨h, B_fr.refl _ _, Or.inl ⟨?_, hz, M, rfl⟩⟩
          unfold S_do
          rw [if_neg hk, if_neg k5, if_pos k8, if_neg w]
      · rw [if_neg k8, mo_refusesWhisper_s _ _ _ M W, B_bind] at hz
        by_cases w : 0 ≤ S_nwh Z P T (nI a.2.1) a.2.2.1 (nI a.2.2.2.1)
        · rw [if_pos w] at hz
          have edo : S_do ev P T K Y Z a = some (px_w Z 9 a.2.2.2.1 (Z 9 a.2.2.2.1 ||| (nI 1 <<< (a.2.2.1 &&& 31))), 0) := by
            unfold S_do
            rw [if_neg hk, if_neg k5, if_neg k8, if_pos w]
          obtain ⟨p, o, t, hp, ho, ht, e1, e2, e3, hpo, hk', hs, hto⟩ := S_nwh_0 W w
          have e3' : a.2.2.2.1 = t := (nI_eq (by omega) (by omega)).mp e3
          have hZ := hdo _ _ edo
          rw [e3', e2] at hz edo hZ
          rw [mo_goWhisper_s ho ht M W, B_bind] at hz
          have F : B_fr E_dm h (px_w h 52 (42 + t) (Z 9 t ||| (nI 1 <<< (nI o &&& 31)))) := (B_fr.refl _ h).w rfl
          exact ⟨_, F, Or.inr ⟨_, 0, edo, hz, M.row52 (M.2.w9 h6 h10 (p := t) (by omega) _) hZ F, by rw [B_w_cell _ _ _ (by decide), ez]⟩⟩
        · rw [if_neg w] at hz
          refine ⟨h, B_fr.refl _ _, Or.inl ⟨?_, hz, M, rfl⟩⟩
          unfold S_do
          rw [if_neg hk, if_neg k5, if_neg k8, if_neg w]
end DODOM
