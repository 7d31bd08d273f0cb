/-! Layer B: rule, the call -/
section RULECALL
variable {i n : Nat} {h h2 : pH} {P T K Y : Nat} {S : pH} {ev ev2 : pE} {sg : Nat → Nat}
def E_R : Nat → Nat → Bool := fun a k => match a with
  | 1 => [1, 2, 3, 4].contains k
  | 17 => [4, 5, 6, 7].contains k
  | 18 => true
  | 19 => true
  | 20 => true
  | 21 => true
  | 51 => [11, 14, 15, 16, 17, 18, 19, 26, 27].contains k
  | 63 => true
  | _ => false
theorem E_ru_R : ∀ a k, E_ru a k = true → E_R a k = true := fun a k e => by
  unfold E_ru at e
  split at e
  · have : k = 2 ∨ k = 3 ∨ k = 4 := by simpa using e
    rcases this with rfl | rfl | rfl <;> rfl
  · have : k = 5 ∨ k = 6 ∨ k = 7 := by simpa using e
    rcases this with rfl | rfl | rfl <;> rfl
  · rfl
  · rfl
  · rfl
  · cases e
theorem E_mx_R : ∀ a k, E_mx a k = true → E_R a k = true := fun a k e => by
  unfold E_mx at e
  split at e
  · have : k = 18 ∨ k = 19 := by simpa using e
    rcases this with rfl | rfl <;> rfl
  · cases e
theorem M_bg_R {most : Nat} : B_fr E_R h (M_bg h n most) := by
  unfold M_bg B_t0
  exact (((((((B_fr.refl _ h).w rfl).w rfl).w rfl).w rfl).w rfl).w rfl).w rfl
theorem R_fin (I : I_h h P T K Y i n S ev) (r : I_row h) (F : B_fr E_R h h2) (e5 : h2 1 1 = 0) (e6 : h2 51 11 = 0) (L2 : I_rul h2 ev2) : Inv (i + 5) h2 := by
  obtain ⟨R, M, W, X, V, E, L⟩ := I
  refine ⟨P, T, K, Y, 0, S, ev2, ⟨?_, ?_, W, ⟨by omega, by rw [e5, nI_0], by rw [e6, nI_0], fun k hk => absurd hk (by omega)⟩, ?_, I_kep.up ?_ (Nat.le_add_right i 5), L2⟩, r.sm (F 45 1 rfl) (F.row 46 (fun _ => rfl)) (F 51 13 rfl) (F.row 59 (fun _ => rfl))⟩
  · unfold R_c at *
    rw [F 3 10 rfl, F 3 11 rfl, F 14 2 rfl, F 14 3 rfl, F.row 4 (fun _ => rfl), F.row 5 (fun _ => rfl), F.row 6 (fun _ => rfl), F.row 7 (fun _ => rfl), F.row 8 (fun _ => rfl), F.row 9 (fun _ => rfl), F.row 10 (fun _ => rfl), F.row 11 (fun _ => rfl), F.row 12 (fun _ => rfl), F.row 13 (fun _ => rfl), F.row 15 (fun _ => rfl)]
    exact R
  · unfold R_m R_k R_a at *
    rw [F 51 4 rfl, F 51 6 rfl, F 51 2 rfl, F 51 1 rfl, F.row 54 (fun _ => rfl), F.row 52 (fun _ => rfl), F.row 55 (fun _ => rfl), F.row 56 (fun _ => rfl), F.row 57 (fun _ => rfl), F.row 53 (fun _ => rfl)]
    exact M
  · unfold I_und at *
    rw [F 41 2 rfl, F 41 3 rfl, F 51 35 rfl, F.row 42 (fun _ => rfl), F.row 66 (fun _ => rfl)]
    exact V
  · unfold I_kep at *
    rw [F 51 60 rfl, F 41 1 rfl, F.row 80 (fun _ => rfl), F.row 81 (fun _ => rfl), F.row 42 (fun _ => rfl), F.row 79 (fun _ => rfl)]
    exact E
theorem R_no (I : I_h h P T K Y i n S ev) (r : I_row h) (F : B_fr E_R h h2) (e5 : h2 1 1 = 0) (e6 : h2 51 11 = 0) (q1 : h2 17 4 = h 17 4) (q2 : h2 18 = h 18) (q3 : h2 51 26 = h 51 26) (q4 : h2 63 = h 63) : Inv (i + 5) h2 := R_fin I r F e5 e6 (by
  have L := I.2.2.2.2.2.2
  unfold I_rul at *
  rw [q1, q2, q3, q4]
  exact L)
theorem u_E_c0 (f : Nat → Int32) : E_c 0 f S_ev0 := fun h h1 h2 t w y => by
  refine ⟨px_w (px_w (px_w h 17 9 t) 17 10 w) 17 11 y, ?_, ((((B_fr.refl _ h).w rfl).w rfl).w rfl)⟩
  generalize hH : px_w (px_w (px_w h 17 9 t) 17 10 w) 17 11 y = h3
  have g4 : h3 17 4 = 0 := by rw [← hH, B_w_at, if_neg (by decide), B_w_at, if_neg (by decide), B_w_at, if_neg (by decide), h1]
  have g8 : h3 17 8 = h 17 8 := by rw [← hH, B_w_at, if_neg (by decide), B_w_at, if_neg (by decide), B_w_at, if_neg (by decide)]
  have g9 : h3 17 9 = t := by rw [← hH, B_w_at, if_neg (by decide), B_w_at, if_neg (by decide), B_w_same]
  unfold ru_pressure
  rw [bc_0, bc_2]
  dsimp only
  rw [hH, if_pos g4, if_neg (show ¬ nI 2 = 0 by decide), g8, g9]
  rfl
theorem u_E_m0 (f : Nat → Int32) : E_m 0 f S_ev0 := fun h a t h1 h2 ht hl h10 k y n h57 => by
  refine ⟨h, ?_, B_fr.refl _ _⟩
  unfold mo_pressureOf
  rw [h1, bc_0, bc_2, if_pos rfl, po_56 h10, B_ift, if_neg (by decide), nI_clamp (by omega)]
  rfl
theorem M_rd.mr {mo k : Nat} {f : Option Nat} (M : M_rd h n mo k sg f) (h1 : n < 2 ^ 31) (h2 : mo < 2 ^ 31) : M_r h 58 (min n mo) k sg f := by
  obtain ⟨c1, c2, c3, c4, c5, cs⟩ := M
  exact ⟨Or.inl rfl, c1, ⟨n, mo, c2, c3, rfl, h1, h2⟩, c4, c5, fun j hj => cs j (by omega)⟩
/-- what is read is taken over: one side -/
theorem ru_read_35_s {l : List uC} (hl : l.length ≤ 40) : ∀ (q j g : Nat) (h : pH), j + q = l.length → q < g → h 17 4 = nI l.length → (∀ i, i < l.length → h 19 i = uI (l.getD i (false, 0))) → (∀ i, i < j → h 18 i = uI (l.getD i (false, 0))) → ∃ h', ru_read_35 g (nI j) h = some (0, h') ∧ (∀ i, i < l.length → h' 18 i = uI (l.getD i (false, 0))) ∧ B_fr (fun a _ => Nat.beq a 18) h h' := by
  intro q
  induction q with
  | zero =>
    intro j g h hj hg e4 e19 e18
    obtain ⟨g, rfl⟩ : ∃ n', g = n' + 1 := ⟨g - 1, by omega⟩
    refine ⟨h, ?_, fun i hi => e18 i (by omega), B_fr.refl _ _⟩
    show (if h 17 4 ≤ nI j then _ else _) = _
    rw [e4, if_pos (nI_le (by omega) (by omega)), bc_0]
  | succ q ih =>
    intro j g h hj hg e4 e19 e18
    obtain ⟨g, rfl⟩ : ∃ n', g = n' + 1 := ⟨g - 1, by omega⟩
    have F0 : B_fr (fun a _ => Nat.beq a 18) h (px_w h 18 j (uI (l.getD j (false, 0)))) := (B_fr.refl _ h).w rfl
    obtain ⟨h', a1, a2, a3⟩ := ih (j + 1) g (px_w h 18 j (uI (l.getD j (false, 0)))) (by omega) (by omega) (by rw [F0 17 4 rfl, e4]) (fun i hi => by rw [F0 19 i rfl]; exact e19 i hi) (fun i hi => by
      rw [B_w_at]
      by_cases w : i = j
      · rw [if_pos w, w]
      · rw [if_neg w]
        exact e18 i (by omega))
    refine ⟨h', ?_, a2, F0.trans a3⟩
    show (if h 17 4 ≤ nI j then _ else _) = _
    rw [e4, if_neg (nI_ge (by omega) (by omega)), wa_19 (by omega), B_bind, e19 j (by omega), wp_18 (by omega), B_bind, bc_1, nI_add]
    exact a1
theorem B_byte_nb {c : Nat} (hc : c < 256) : px_nb (B_byte c) = B_byte c := by
  have hd : ∀ c, c < 256 → px_nb (B_byte c) = B_byte c := by decide +kernel
  exact hd c hc
def E_26 : Nat → Nat → Bool := fun a k => match a with
  | 51 => Nat.beq k 26
  | 63 => true
  | _ => false
theorem mo_rule_73_s (hn : n ≤ 40) (hs : ∀ j, j < n → sg j < 256) : ∀ (q j g : Nat) (h : pH), j + q = n → q < g → (∀ i, i < n → h 58 i = B_byte (sg i)) → (∀ i, i < j → h 63 i = B_byte (sg i)) → ∃ h', mo_rule_73 g (nI n) (nI j) h = some (0, h') ∧ h' 51 26 = nI n ∧ (∀ i, i < n → h' 63 i = B_byte (sg i)) ∧ B_fr E_26 h h' := by
  intro q
  induction q with
  | zero =>
    intro j g h hj hg e58 e63
    obtain ⟨g, rfl⟩ : ∃ n', g = n' + 1 := ⟨g - 1, by omega⟩
    refine ⟨px_w h 51 26 (nI n), ?_, B_w_same _ _ _ _, fun i hi => ?_, (B_fr.refl _ h).w rfl⟩
    · show (if nI n ≤ nI j then _ else _) = _
      rw [if_pos (nI_le (by omega) (by omega))]
      unfold mo_rule_101
      rw [bc_0]
    · rw [B_w_cell _ _ _ (by decide)]
      exact e63 i (by omega)
  | succ q ih =>
    intro j g h hj hg e58 e63
    obtain ⟨g, rfl⟩ : ∃ n', g = n' + 1 := ⟨g - 1, by omega⟩
    have F0 : B_fr E_26 h (px_w h 63 j (B_byte (sg j))) := (B_fr.refl _ h).w rfl
    obtain ⟨h', a1, a2, a3, a4⟩ := ih (j + 1) g (px_w h 63 j (B_byte (sg j))) (by omega) (by omega) (fun i hi => by rw [F0 58 i rfl]; exact e58 i hi) (fun i hi => by
      rw [B_w_at]
      by_cases w : i = j
      · rw [if_pos w, w]
      · rw [if_neg w]
        exact e63 i (by omega))
    refine ⟨h', ?_, a2, a3, F0.trans a4⟩
    show (if nI n ≤ nI j then _ else _) = _
    rw [if_neg (nI_ge (by omega) (by omega)), po_58 (by omega), Bool.true_or, B_ift, po_63 (by omega), B_ift, nI_clamp (by omega), e58 j (by omega), B_byte_nb (hs j (by omega)), bc_1, nI_add]
    exact a1
theorem B_rule (hI : Inv i h) : ∃ r h1 h2, wu_rule h = some (r, h1) ∧ mo_rule h1 = some (r, h2) ∧ Inv (i + 5) h2 := by
  obtain ⟨P, T, K, Y, n, S, ev, I, r⟩ := hI
  obtain ⟨R, M, W, X, V, E, L⟩ := id I
  obtain ⟨sg1, sg2, sg3⟩ := X.sg
  have hn := X.1
  have ecut : ∀ hh : pH, hh 1 1 = nI n → tx_cut (px_c 0) hh = some (nI 1, px_w hh 1 1 0) := fun hh e => by
    unfold tx_cut
    rw [bc_0, if_neg (by decide), e, if_pos (nI_pos' (by omega)), bc_1, B_bz1]
  have hmo : ∀ hh : pH, (∀ a, 51 ≤ a → hh a = h a) → mo_rule hh = mo_rule_26 (nI n) (M_bg hh n 40) := fun hh e => by
    have := mo_begin_s (h := hh) (n := n) (most := 40) (by rw [e 51 (by omega)]; exact X.2.2.1)
    have e11 : (B_t0 hh) 51 11 = nI n := by
      rw [B_t0_at _ (by decide), e 51 (by omega)]
      exact X.2.2.1
    unfold mo_rule
    rw [bc_40, bc_0]
    show px_bind (mo_begin 58 ((B_t0 hh) 51 11) (nI 40) (B_t0 hh)) (fun _ h4 => mo_rule_26 ((B_t0 hh) 51 11) (px_w h4 51 11 0)) = _
    rw [bc_0] at this
    cases hb : mo_begin 58 ((B_t0 hh) 51 11) (nI 40) (B_t0 hh) with
    | none =>
      rw [hb] at this
      cases this
    | some x =>
      rw [hb] at this
      have h2 : px_w x.2 51 11 0 = M_bg hh n 40 := congrArg Prod.snd (Option.some.inj this)
      show mo_rule_26 ((B_t0 hh) 51 11) (px_w x.2 51 11 0) = _
      rw [h2, e11]
  have hb11 : ∀ hh : pH, (px_w (M_bg hh n 40) 51 27 0) 51 11 = 0 := fun hh => by
    rw [B_w_at, if_neg (by decide)]
    exact B_w_same _ _ _ _
  have hb26 : ∀ hh : pH, (px_w (M_bg hh n 40) 51 27 0) 51 26 = hh 51 26 := fun hh => by
    unfold M_bg
    rw [B_w_at, if_neg (by decide), B_w_at, if_neg (by decide), B_w_at, if_neg (by decide), B_w_at, if_neg (by decide), B_w_at, if_neg (by decide), B_w_at, if_neg (by decide), B_w_at, if_neg (by decide), B_t0_at _ (by decide)]
  have hbr : ∀ (hh : pH) (a : Nat), a ≠ 51 → (px_w (M_bg hh n 40) 51 27 0) a = hh a := fun hh a ha => by
    rw [B_w_cell _ _ _ ha, M_bg_row _ _ _ ha]
  have hbF : ∀ hh : pH, B_fr E_R hh (px_w (M_bg hh n 40) 51 27 0) := fun hh => B_fr.w M_bg_R rfl
  have h26 : ∀ hh : pH, mo_rule_26 (nI n) (M_bg hh n 40) = if n = 0 then mo_rule_71 (nI n) (px_w (M_bg hh n 40) 51 27 0) else px_bind (mo_heldT (nI 0) (px_w (M_bg hh n 40) 51 27 0)) fun z2 h3 => if nI n ≤ h3 51 18 then mo_rule_57 (nI n) h3 else px_bind (mo_fault (h3 51 18) h3) fun _ h5 => mo_rule_57 (nI n) h5 := fun hh => by
    unfold mo_rule_26
    rw [show (decide (px_c 0 = 0) || decide (px_c 0 = 1)) = true by rw [bc_0]; rfl, B_ift, bc_0]
    by_cases q : n = 0
    · rw [if_pos (show nI n ≤ 0 by rw [q]; decide), if_pos q]
    · rw [if_neg (fun w => by
        rw [bn_le0 (by omega)] at w
        exact q w), if_neg q, nI_0]
  by_cases n0 : n = 0
  · -- nothing is told: none
    generalize hH : px_w (px_w (px_w h 17 5 0) 17 4 0) 1 1 0 = h1
    have F1 : B_fr E_R h h1 := by
      rw [← hH]
      exact (((B_fr.refl _ h).w rfl).w rfl).w rfl
    have f51 : ∀ a, 51 ≤ a → h1 a = h a := fun a ha => by rw [← hH, B_w_cell _ _ _ (by omega), B_w_cell _ _ _ (by omega), B_w_cell _ _ _ (by omega)]
    have hcl : wu_rule h = some (0, h1) := by
      obtain ⟨F, hF⟩ : ∃ F, px_F = F + 1 := ⟨px_F - 1, by have : 100 < px_F := px_F_lt (by omega); omega⟩
      have e35 : ru_read_35 px_F (px_c 0) (px_w (px_w h 17 5 0) 17 4 0) = some (0, px_w (px_w h 17 5 0) 17 4 0) := by
        rw [hF, bc_0]
        show (if (px_w (px_w h 17 5 0) 17 4 0) 17 4 ≤ 0 then _ else _) = _
        rw [B_w_same, if_pos (by decide), bc_0]
      unfold wu_rule ru_read
      dsimp only
      rw [bc_0, B_w_cell _ _ _ (show (1 : Nat) ≠ 17 by decide), X.2.1, if_pos (show nI n ≤ 0 by rw [n0]; decide)]
      unfold ru_read_25
      dsimp only
      rw [B_w_same, e35, B_bind, ← bc_0, ecut _ (by rw [B_w_cell _ _ _ (by decide), B_w_cell _ _ _ (by decide)]; exact X.2.1), B_bind, bc_0, hH]
    obtain ⟨h', a1, a2, a3, a4⟩ := mo_rule_73_s (n := 0) (sg := B_sg h) (by omega) (fun j hj => absurd hj (by omega)) 0 0 px_F (px_w (M_bg h1 n 40) 51 27 0) rfl (px_F_lt (by omega)) (fun i hi => absurd hi (by omega)) (fun i hi => absurd hi (by omega))
    have FF : B_fr E_R h h' := (F1.trans (hbF h1)).trans (a4.mono (fun a k e => by
      unfold E_26 at e
      split at e
      · have := Nat.eq_of_beq_eq_true e
        subst this
        rfl
      · rfl
      · cases e))
    refine ⟨0, h1, h', hcl, ?_, R_fin (ev2 := S_ev0) I r FF ?_ ?_ ⟨?_, ?_⟩⟩
    · rw [hmo h1 f51, h26, if_pos n0]
      unfold mo_rule_71
      rw [n0, bc_0, ← nI_0]
      rw [n0] at a1
      exact a1
    · rw [a4 1 1 rfl, hbr _ 1 (by decide), ← hH, B_w_same]
    · rw [a4 51 11 rfl, hb11]
    · have e : h' 17 4 = 0 := by rw [a4 17 4 rfl, hbr _ 17 (by decide), ← hH, B_w_cell _ _ _ (by decide), B_w_same]
      rw [e]
      exact u_E_c0 _
    · rw [a2, nI_0]
      exact u_E_m0 _
  · -- an expression
    generalize hsgE : B_sg h = sg at *
    have hm40 : min n 40 ≤ 40 := Nat.min_le_right _ _
    have hmn : min n 40 ≤ n := Nat.min_le_left _ _
    have hsm : ∀ j, j < min n 40 → sg j < 256 := fun j hj => sg2 j (by omega)
    -- one side begins
    generalize hH4 : px_w (px_w (px_w (px_w (px_w (px_w (px_w h 17 5 0) 1 2 0) 1 3 (nI (min n 40))) 1 4 (-1)) 17 6 0) 17 7 0) 21 0 0 = h4
    have F4 : B_fr E_ru h h4 := by
      rw [← hH4]
      exact (((((((B_fr.refl _ h).w rfl).w rfl).w rfl).w rfl).w rfl).w rfl).w rfl
    have C0 : C_ru h4 n (min n 40) sg (0, [], [], 0, fun _ => false) := by
      refine ⟨⟨?_, ?_, ?_, fun j hj => ?_⟩, ⟨⟨?_, fun i hi => absurd hi (by simp)⟩, ?_, fun i hi => absurd hi (by simp)⟩, ?_, fun j hj => ?_⟩
      · rw [F4 1 1 rfl]
        exact X.2.1
      · rw [← hH4, B_w_cell _ _ _ (by decide), B_w_cell _ _ _ (by decide), B_w_cell _ _ _ (by decide), B_w_at, if_neg (by decide), B_w_at, if_neg (by decide), B_w_same, nI_0]
      · rw [← hH4, B_w_cell _ _ _ (by decide), B_w_cell _ _ _ (by decide), B_w_cell _ _ _ (by decide), B_w_at, if_neg (by decide), B_w_same]
      · rw [F4.row 2 (fun _ => rfl)]
        exact sg1 j hj
      · rw [← hH4, B_w_cell _ _ _ (by decide), B_w_at, if_neg (by decide), B_w_at, if_neg (by decide), B_w_cell _ _ _ (by decide), B_w_cell _ _ _ (by decide), B_w_cell _ _ _ (by decide), B_w_same]
        rfl
      · rw [← hH4, B_w_cell _ _ _ (by decide), B_w_at, if_neg (by decide), B_w_same]
        rfl
      · rw [← hH4, B_w_cell _ _ _ (by decide), B_w_same]
        rfl
      · change j ≤ 0 at hj
        rw [← hH4, show j = 0 by omega, B_w_same]
        rfl
    have hcl0 : ru_readExpression (px_w h 17 5 0) = ru_readExpression_23 px_F (nI 0) h4 := by
      unfold ru_readExpression tx_open
      dsimp only
      rw [bc_0, bc_40, bc_m1, B_bind, B_w_at, if_neg (by decide), B_w_cell _ _ _ (show (1 : Nat) ≠ 17 by decide), X.2.1, px_min_nI (by omega) (by omega)]
      have := ru_compare_s (h := px_w (px_w (px_w (px_w (px_w (px_w h 17 5 0) 1 2 0) 1 3 (nI (min n 40))) 1 4 (-1)) 17 6 0) 17 7 0) (j := 0) (b := false) (by omega) (by rw [B_w_same, nI_0])
      rw [B_01_f] at this
      rw [this, B_bind, hH4, nI_0]
    have hcl1 : ∀ z hh, ru_readExpression_23 px_F (nI 0) h4 = some (z, hh) → wu_rule h = px_bind (if z = 0 then px_bind (tx_answer hh) fun z4 h5 => some (z4, h5) else ru_read_25 hh) fun z1 h2 => px_bind (tx_cut (px_c 0) h2) fun _ h4 => some (z1, h4) := fun z hh e => by
      unfold wu_rule ru_read
      dsimp only
      rw [bc_0, B_w_cell _ _ _ (show (1 : Nat) ≠ 17 by decide), X.2.1, if_neg (fun w => by
        rw [bn_le0 (by omega)] at w
        exact n0 w), hcl0, e, B_bind]
    have hclass := fun (R : Nat ⊕ List uC) (d : Nat) => ru_readExpression_23_s hn hmn hm40 sg2 R d d (0, [], [], 0, fun _ => false) px_F 0 h4 (Nat.le_refl _) C0 ⟨Nat.le_refl _, Nat.zero_le _, Nat.zero_le _, fun s hs => by cases hs⟩ (Nat.le_refl _) (px_F_lt (by omega))
    -- the other side begins
    have hr : ∀ hh : pH, (∀ a, 51 ≤ a → hh a = h a) → M_r (px_w (M_bg hh n 40) 51 27 0) 58 (min n 40) 0 sg none := fun hh e => by
      have MR := M_bg_rd (h := hh) (n := n) (sg := sg) (most := 40) (fun j hj => by rw [e 58 (by decide)]; exact sg3 j hj)
      exact (MR.cell (fun j hj => by rw [B_w_at, if_neg (by omega)]) (by rw [B_w_cell _ _ _ (by decide)])).mr (by omega) (by decide)
    have h57f : ∀ (hh : pH) (k f : Nat), f < 2 ^ 31 → M_r hh 58 (min n 40) k sg (some f) → mo_rule_57 (nI n) hh = some (-1 - nI f, hh) := fun hh k f hf Mf => by
      unfold mo_rule_57
      rw [mr_fine1 hf Mf, B_bind, if_pos rfl, bc_m1, Mf.2.2.2.2.1]
      rfl
    -- a fault at f, on both sides
    have hfault : ∀ f, f ≤ min n 40 → u_R sg n (min n 40) (false, 0, [], [], 0, fun _ => false) (.inl f) → (∀ hh, (∀ a, 51 ≤ a → hh a = h a) → ∃ h', mo_rule hh = some (-1 - nI f, h') ∧ B_fr E_mx (px_w (M_bg hh n 40) 51 27 0) h') → ∃ r h1 h2, wu_rule h = some (r, h1) ∧ mo_rule h1 = some (r, h2) ∧ Inv (i + 5) h2 := fun f hf hR hM => by
      obtain ⟨d, hd⟩ := hR
      rcases hclass _ d hd with ⟨f', h', x1, x2, x3, x4, x5⟩ | ⟨l, h', x1, -⟩
      · cases x1
        have FC : B_fr E_ru h h' := F4.trans x5
        have f51 : ∀ a, 51 ≤ a → (px_w h' 1 1 0) a = h a := fun a ha => by
          rw [B_w_cell _ _ _ (by omega)]
          exact FC.row a (fun k => by
            unfold E_ru
            split
            all_goals (first | rfl | (exfalso; omega)))
        obtain ⟨h7, y1, y2⟩ := hM _ f51
        have F1 : B_fr E_R h (px_w h' 1 1 0) := (FC.mono E_ru_R).w rfl
        refine ⟨-1 - nI f, px_w h' 1 1 0, h7, ?_, y1, R_no I r ((F1.trans (hbF _)).trans (y2.mono E_mx_R)) ?_ ?_ ?_ ?_ ?_ ?_⟩
        · rw [hcl1 0 h' x3, if_pos rfl]
          unfold tx_answer
          rw [x4, bc_m1, B_bind, B_bind, ecut h' (by rw [FC 1 1 rfl]; exact X.2.1), B_bind]
        · rw [y2 1 1 rfl, hbr _ 1 (by decide), B_w_same]
        · rw [y2 51 11 rfl, hb11]
        · rw [y2 17 4 rfl, hbr _ 17 (by decide), B_w_cell _ _ _ (by decide), FC 17 4 rfl]
        · rw [y2.row 18 (fun _ => rfl), hbr _ 18 (by decide), B_w_cell _ _ _ (by decide), FC.row 18 (fun _ => rfl)]
        · rw [y2 51 26 rfl, hb26, f51 51 (by decide)]
        · rw [y2.row 63 (fun _ => rfl), hbr _ 63 (by decide), f51 63 (by decide)]
      · cases x1
    rcases u_top_s (n := n) hm40 hsm with ⟨f, f1, f2, f3⟩ | ⟨k', l, v, g1, g2, g3, g4, g5⟩
    · refine hfault f f1 (f3 [] [] _ ⟨trivial, rfl⟩) (fun hh e => ?_)
      obtain ⟨v, h', k2, x1, x2, x3⟩ := f2 _ 58 (hr hh e)
      refine ⟨h', ?_, x3⟩
      rw [hmo hh e, h26, if_neg n0, x1, B_bind, mr_fault1 (by omega) x2, B_bind, h57f h' k2 f (by omega) x2]
      split <;> rfl
    · obtain ⟨o2, s2, cmp2, y1, y2, y3, y4⟩ := g5 [] [] (fun _ => false) ⟨trivial, rfl⟩
      by_cases hk : k' = n
      · -- it is good
        have hmn2 : min n 40 = n := by omega
        have hR : u_R sg n (min n 40) (false, 0, [], [], 0, fun _ => false) (.inr l) := by
          refine y4 _ (u_R_end ?_)
          show u_A sg n (min n 40) (k', o2, s2, 0, cmp2) = _
          unfold u_A
          dsimp only
          rw [if_neg (fun w => by omega), if_pos ⟨rfl, by omega⟩, if_pos hk, y1 0 (by omega)]
          rfl
        obtain ⟨d, hd⟩ := hR
        have hok := u_run_ok d _ hd (fun c hc => by cases hc) (fun s hs => by cases hs)
        have hl0 : 0 < l.length := by
          cases l with
          | nil =>
            have := g3 (fun _ => 0) []
            cases this
          | cons c l => rw [List.length_cons]; omega
        rcases hclass _ d hd with ⟨f', h', x1, -⟩ | ⟨l', h', x1, x2, x3, x4, x5, -, x6⟩
        · cases x1
        · cases x1
          have FC : B_fr E_ru h h' := F4.trans x6
          obtain ⟨h5, b1, b2, b3⟩ := ru_read_35_s x5 l.length 0 px_F (px_w h' 17 4 (nI l.length)) (by omega) (px_F_lt (by omega)) (B_w_same _ _ _ _) (fun i hi => by rw [B_w_cell _ _ _ (by decide)]; exact x4 i hi) (fun i hi => absurd hi (by omega))
          have F5 : B_fr E_R h (px_w h5 1 1 0) := (((FC.mono E_ru_R).w rfl).trans (b3.mono (fun a k e => by
            have := Nat.eq_of_beq_eq_true e
            subst this
            rfl))).w rfl
          have b3' : ∀ a, a ≠ 18 → a ≠ 17 → h5 a = h' a := fun a ha ha2 => by
            rw [b3.row a (fun _ => beq_ne ha), B_w_cell _ _ _ ha2]
          have f51 : ∀ a, 51 ≤ a → (px_w h5 1 1 0) a = h a := fun a ha => by
            rw [B_w_cell _ _ _ (by omega), b3' a (by omega) (by omega)]
            exact FC.row a (fun k => by
              unfold E_ru
              split
              all_goals (first | rfl | (exfalso; omega)))
          have hcl : wu_rule h = some (0, px_w h5 1 1 0) := by
            rw [hcl1 (nI 1) h' x2, if_neg (by decide)]
            unfold ru_read_25
            dsimp only
            rw [x3, bc_0, ← nI_0, b1, B_bind, nI_0, ← bc_0, ecut h5 (by rw [b3' 1 (by decide) (by decide), FC 1 1 rfl]; exact X.2.1), B_bind, bc_0]
          obtain ⟨h6, z1, z2, z3⟩ := g4 _ 58 (hr _ f51)
          obtain ⟨h7, w1, w2, w3, w4⟩ := mo_rule_73_s (n := n) (sg := sg) (by omega) sg2 n 0 px_F h6 (by omega) (px_F_lt (by omega)) (fun i hi => by
            rw [z3.row 58 (fun _ => rfl), hbr _ 58 (by decide), f51 58 (by decide)]
            exact sg3 i hi) (fun i hi => absurd hi (by omega))
          have e26R : ∀ a k, E_26 a k = true → E_R a k = true := fun a k e => by
            unfold E_26 at e
            split at e
            · have := Nat.eq_of_beq_eq_true e
              subst this
              rfl
            · rfl
            · cases e
          refine ⟨0, px_w h5 1 1 0, h7, hcl, ?_, R_fin (ev2 := fun p t w y n i o => v (u_env p t w y n i o)) I r (((F5.trans (hbF _)).trans (z3.mono E_mx_R)).trans (w4.mono e26R)) ?_ ?_ ⟨?_, ?_⟩⟩
          · rw [hmo _ f51, h26, if_neg n0, z1, B_bind, z2.2.2.2.1, if_pos (nI_le (by omega) (by omega))]
            unfold mo_rule_57 mo_rule_71
            rw [mr_fine0 z2, B_bind, if_neg (by decide), bc_0, ← nI_0]
            rw [← nI_0] at w1
            exact w1
          · rw [w4 1 1 rfl, z3 1 1 rfl, hbr _ 1 (by decide), B_w_same]
          · rw [w4 51 11 rfl, z3 51 11 rfl, hb11]
          · have e4 : h7 17 4 = nI l.length := by
              rw [w4 17 4 rfl, z3 17 4 rfl, hbr _ 17 (by decide), B_w_cell _ _ _ (by decide), b3 17 4 rfl, B_w_same]
            have e18 : h7 18 = h5 18 := by
              rw [w4.row 18 (fun _ => rfl), z3.row 18 (fun _ => rfl), hbr _ 18 (by decide), B_w_cell _ _ _ (by decide)]
            rw [e4, e18]
            exact u_E_c g3 x5 hl0 hok b2
          · rw [w2]
            rw [hmn2] at g4
            refine u_E_m (by omega) (by omega) w3 (fun hh r Mh => ?_)
            obtain ⟨h', c1, c2, c3⟩ := g4 hh r Mh
            exact ⟨h', k', c1, c2, c3⟩
      · -- it ends too early
        refine hfault k' g2 (y4 _ (u_R_end ?_)) (fun hh e => ?_)
        · show u_A sg n (min n 40) (k', o2, s2, 0, cmp2) = _
          unfold u_A
          dsimp only
          rw [if_neg (fun w => by omega)]
          by_cases w : k' < min n 40
          · rw [if_neg (fun e => e.2 w), if_pos y3]
          · rw [if_pos ⟨rfl, w⟩, if_neg hk]
        · obtain ⟨h', x1, x2, x3⟩ := g4 _ 58 (hr hh e)
          refine ⟨px_w h' 51 19 (nI k'), ?_, x3.w rfl⟩
          rw [hmo hh e, h26, if_neg n0, x1, B_bind, x2.2.2.2.1, if_neg (nI_ge (by omega) (by omega)), mr_fault0 x2, B_bind, h57f _ k' k' (by omega) (x2.fl k')]
end RULECALL
