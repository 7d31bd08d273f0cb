/-! Layer B: the fewest things, both sides -/
def E_b : Nat → Nat → Bool := fun a k => match a with
  | 51 => [41, 42, 43, 45, 46, 47].contains k
  | 70 => true
  | 71 => true
  | _ => false
def E_z : Nat → Nat → Bool := fun a k => match a with
  | 51 => [15, 16, 17, 18, 19, 27, 30, 31, 32, 33, 41, 42, 43, 45, 46, 47, 50].contains k
  | 64 => true
  | 65 => true
  | 68 => true
  | 70 => true
  | 71 => true
  | 72 => true
  | _ => false
theorem E_z_sd : ∀ a k, E_z a k = true → B_sd a k = true := fun a k e => by
  unfold E_z at e
  split at e
  · have : k = 15 ∨ k = 16 ∨ k = 17 ∨ k = 18 ∨ k = 19 ∨ k = 27 ∨ k = 30 ∨ k = 31 ∨ k = 32 ∨ k = 33 ∨ k = 41 ∨ k = 42 ∨ k = 43 ∨ k = 45 ∨ k = 46 ∨ k = 47 ∨ k = 50 := by simpa using e
    rcases this with rfl | rfl | rfl | rfl | rfl | rfl | rfl | rfl | rfl | rfl | rfl | rfl | rfl | rfl | rfl | rfl | rfl <;> rfl
  · rfl
  · rfl
  · rfl
  · rfl
  · rfl
  · rfl
  · cases e
theorem E_b_z : ∀ a k, E_b a k = true → E_z a k = true := fun a k e => by
  unfold E_b at e
  split at e
  · have : k = 41 ∨ k = 42 ∨ k = 43 ∨ k = 45 ∨ k = 46 ∨ k = 47 := by simpa using e
    rcases this with rfl | rfl | rfl | rfl | rfl | rfl <;> rfl
  · rfl
  · rfl
  · cases e
theorem E_q_z : ∀ a k, E_q a k = true → E_z a k = true := fun a k e => by
  unfold E_q at e
  split at e
  · have : k = 15 ∨ k = 16 ∨ k = 17 ∨ k = 18 ∨ k = 19 ∨ k = 27 ∨ k = 30 ∨ k = 31 ∨ k = 32 ∨ k = 33 ∨ k = 45 ∨ k = 46 ∨ k = 47 ∨ k = 50 := by simpa using e
    rcases this with rfl | rfl | rfl | rfl | rfl | rfl | rfl | rfl | rfl | rfl | rfl | rfl | rfl | rfl <;> rfl
  · rfl
  · rfl
  · rfl
  · rfl
  · rfl
  · cases e
section SHORTEST
variable {i : Nat} {h : pH} {P T K Y D p b n : Nat} {S Z : pH} {ev : pE} {ab : Int32} {r : List Nat}
theorem mo_beginRows_s {a : Nat} (ha : B_sl a) (h70 : a ≠ 70) (W : R_w P T K Y Z) (M : M_h h P T K Y Z ev) (A : R_a h a P T Z) : ∃ h', mo_beginRows a ab (nI p) (nI b) h = some (0, h') ∧ Ms h' P T K Y Z ev ab p b ∧ h' 51 45 = 0 ∧ h' 51 46 = 0 ∧ h' 51 47 = 0 ∧ (∀ t, t < 10 → h' 71 t = 0) ∧ B_fr E_b h h' := by
  have h6 := W.1
  have h10 := W.2.1
  have s70 : B_sl 70 := Or.inr (Or.inr (Or.inl rfl))
  have F1 : B_fr E_b h (B_cp h (h a) 70 0) := B_cp_fr (fun _ => rfl)
  have A1 : R_a (B_cp h (h a) 70 0) 70 P T Z := B_cp_A A h6 h10 70
  have H : ∀ (j k m : Nat) (g : pH), k + j = 10 → j < m → (∀ t, t < k → g 71 t = 0) → ∃ h', mo_beginRows_43 m (nI k) g = some (0, h') ∧ (∀ t, t < 10 → h' 71 t = 0) ∧ B_fr (E_a 71) g h' := by
    intro j
    induction j with
    | zero =>
      intro k m g hk hm e
      obtain ⟨m, rfl⟩ : ∃ n', m = n' + 1 := ⟨m - 1, by omega⟩
      refine ⟨g, ?_, fun t ht => e t (by omega), B_fr.refl _ _⟩
      show (if px_c 10 ≤ nI k then _ else _) = _
      rw [bc_10, if_pos (nI_le (by omega) (by omega))]
    | succ j ih =>
      intro k m g hk hm e
      obtain ⟨m, rfl⟩ : ∃ n', m = n' + 1 := ⟨m - 1, by omega⟩
      obtain ⟨h', x1, x2, x3⟩ := ih (k + 1) m (px_w g 71 k 0) (by omega) (by omega) (fun t ht => by
        rw [B_w_at]
        by_cases q : t = k
        · rw [if_pos q]
        · rw [if_neg q]
          exact e t (by omega))
      refine ⟨h', ?_, x2, B_fr.trans ((B_fr.refl _ _).w rfl) x3⟩
      show (if px_c 10 ≤ nI k then _ else _) = _
      rw [bc_10, if_neg (nI_ge (by omega) (by omega)), po_71 (by omega), B_ift, nI_clamp (by omega), bc_0, bc_1, nI_add]
      exact x1
  obtain ⟨h', x1, x2, x3⟩ := H 10 0 px_F (px_w (px_w (px_w (px_w (px_w (px_w (B_cp h (h a) 70 0) 51 41 ab) 51 42 (nI p)) 51 43 (nI b)) 51 45 0) 51 46 0) 51 47 0) rfl (px_F_lt (by omega)) (fun t ht => by omega)
  have F2 : B_fr E_b (B_cp h (h a) 70 0) (px_w (px_w (px_w (px_w (px_w (px_w (B_cp h (h a) 70 0) 51 41 ab) 51 42 (nI p)) 51 43 (nI b)) 51 45 0) 51 46 0) 51 47 0) := ((((((B_fr.refl _ _).w rfl).w rfl).w rfl).w rfl).w rfl).w rfl
  have F3 : B_fr E_b h h' := (F1.trans F2).trans (x3.mono (fun a k e => by
    have := Nat.eq_of_beq_eq_true e
    subst this
    rfl))
  refine ⟨h', ?_, ⟨⟨?_, ?_⟩, A1.cell ?_, ?_, ?_, ?_⟩, ?_, ?_, ?_, x2, F3⟩
  · unfold mo_beginRows
    rw [mo_lay_t ha s70 h70, B_bind]
    unfold mo_beginRows_19 mo_beginRows_30 mo_beginRows_40
    rw [bc_0, ← nI_0]
    rw [← nI_0] at x1
    exact x1
  · obtain ⟨R, E⟩ := M
    unfold R_k at *
    rw [F3 51 4 rfl, F3 51 6 rfl, F3 51 2 rfl, F3 51 1 rfl, F3.row 54 (fun _ => rfl), F3.row 55 (fun _ => rfl), F3.row 56 (fun _ => rfl), F3.row 57 (fun _ => rfl), F3.row 53 (fun _ => rfl)]
    exact R
  · rw [F3 51 26 rfl, F3.row 63 (fun _ => rfl)]
    exact M.2
  · rw [x3.row 70 (fun _ => rfl), B_w_cell _ _ _ (by decide), B_w_cell _ _ _ (by decide), B_w_cell _ _ _ (by decide), B_w_cell _ _ _ (by decide), B_w_cell _ _ _ (by decide), B_w_cell _ _ _ (by decide)]
  · rw [x3 51 41 rfl, B_w_at, if_neg (by decide), B_w_at, if_neg (by decide), B_w_at, if_neg (by decide), B_w_at, if_neg (by decide), B_w_at, if_neg (by decide), B_w_same]
  · rw [x3 51 42 rfl, B_w_at, if_neg (by decide), B_w_at, if_neg (by decide), B_w_at, if_neg (by decide), B_w_at, if_neg (by decide), B_w_same]
  · rw [x3 51 43 rfl, B_w_at, if_neg (by decide), B_w_at, if_neg (by decide), B_w_at, if_neg (by decide), B_w_same]
  · rw [x3 51 45 rfl, B_w_at, if_neg (by decide), B_w_at, if_neg (by decide), B_w_same]
  · rw [x3 51 46 rfl, B_w_at, if_neg (by decide), B_w_same]
  · rw [x3 51 47 rfl, B_w_same]
theorem mo_first_s {many : Nat} (hmany : many ≤ 4) (hp : p < 2 + K) (hb : b < 2) (W : R_w P T K Y Z) (M : Ms h P T K Y Z ev ab p b) : ∃ h', mo_goRows (nI many) 0 h = some (B_01 (F_x (Z_ok Z T ab) (Z_ov ev Z (S_dist Z Y p b) ab) many []).isSome, h') ∧ B_fr E_q h h' ∧ M_row h' ((F_x (Z_ok Z T ab) (Z_ov ev Z (S_dist Z Y p b) ab) many []).getD []) := by
  obtain ⟨h', x1, -, x3, x4⟩ := mo_goRows_s (fun (_ : Unit) _ => True) (fun _ a => a) (Z_ov ev Z (S_dist Z Y p b) ab) (fun _ => 0) (fun _ _ => Nat.le_succ _) 0 many hmany W (fun _ _ _ _ _ => trivial) (fun r a h _ _ hv M Mr _ => by
    obtain ⟨h', y1, y2, y3⟩ := mo_endRow_first hp hb W hv M Mr
    exact ⟨h', y1, trivial, y2, y3⟩) () (by have := Nat.pow_le_pow_right (show 0 < 10 by omega) hmany; omega) M trivial
  rw [E_t_x] at x1 x4
  exact ⟨h', x1, x3, x4⟩
theorem mo_leastRow_s {most a : Nat} (hmost : most ≤ 4) (ha : B_sl a) (h70 : a ≠ 70) (hp : p < 2 + K) (hb : b < 2) (W : R_w P T K Y Z) (M : M_h h P T K Y Z ev) (A : R_a h a P T Z) : ∃ h', mo_leastRow a ab (nI p) (nI b) (nI most) h = some (nI (Z_sh ev Z T (S_dist Z Y p b) ab most).length, h') ∧ B_fr E_z h h' ∧ (Z_sh ev Z T (S_dist Z Y p b) ab most ≠ [] → M_row h' (Z_sh ev Z T (S_dist Z Y p b) ab most)) := by
  have H : ∀ (j k m : Nat) (g : pH), k + j = most → j < m → Ms g P T K Y Z ev ab p b → ∃ h', mo_leastRow_12 m (nI most) (nI (k + 1)) g = some (nI ((L_fst (fun n => F_x (Z_ok Z T ab) (Z_ov ev Z (S_dist Z Y p b) ab) (n + 1) []) k j).getD []).length, h') ∧ B_fr E_q g h' ∧ ((L_fst (fun n => F_x (Z_ok Z T ab) (Z_ov ev Z (S_dist Z Y p b) ab) (n + 1) []) k j).getD [] ≠ [] → M_row h' ((L_fst (fun n => F_x (Z_ok Z T ab) (Z_ov ev Z (S_dist Z Y p b) ab) (n + 1) []) k j).getD [])) := by
    intro j
    induction j with
    | zero =>
      intro k m g hk hm M
      obtain ⟨m, rfl⟩ : ∃ n', m = n' + 1 := ⟨m - 1, by omega⟩
      refine ⟨g, ?_, B_fr.refl _ _, fun q => absurd rfl q⟩
      show (if nI most < nI (k + 1) then _ else _) = _
      rw [if_pos (by rw [bn_lt (by omega) (by omega)]; omega), bc_0, ← nI_0]
      rfl
    | succ j ih =>
      intro k m g hk hm M
      obtain ⟨m, rfl⟩ : ∃ n', m = n' + 1 := ⟨m - 1, by omega⟩
      obtain ⟨h1, x1, x2, x3⟩ := mo_first_s (many := k + 1) (by omega) hp hb W M
      have hz : mo_leastRow_12 (m + 1) (nI most) (nI (k + 1)) g = if B_01 (F_x (Z_ok Z T ab) (Z_ov ev Z (S_dist Z Y p b) ab) (k + 1) []).isSome = 0 then mo_leastRow_12 m (nI most) (nI (k + 1 + 1)) h1 else some (nI (k + 1), h1) := by
        show (if nI most < nI (k + 1) then _ else _) = _
        rw [if_neg (fun w => by rw [bn_lt (by omega) (by omega)] at w; omega), bc_0, x1, B_bind, bc_1, nI_add]
      rw [hz]
      unfold L_fst
      cases hf : F_x (Z_ok Z T ab) (Z_ov ev Z (S_dist Z Y p b) ab) (k + 1) [] with
      | none =>
        rw [if_pos (show B_01 (none : Option (List Nat)).isSome = 0 from rfl)]
        obtain ⟨h', y1, y2, y3⟩ := ih (k + 1) m h1 (by omega) (by omega) (M.fr x2)
        exact ⟨h', y1, x2.trans y2, y3⟩
      | some x =>
        rw [hf] at x3
        have lx := F_x_len _ _ _ hf
        rw [List.length_nil, Nat.zero_add] at lx
        rw [if_neg (show ¬ B_01 (some x).isSome = 0 from (by decide : ¬ B_01 true = 0))]
        refine ⟨h1, ?_, x2, fun _ => x3⟩
        rw [← lx]
        rfl
  obtain ⟨h1, e1, e2, -, -, -, -, e3⟩ := mo_beginRows_s (ab := ab) (p := p) (b := b) ha h70 W M A
  obtain ⟨h', y1, y2, y3⟩ := H most 0 px_F h1 (by omega) (px_F_lt (by omega)) e2
  refine ⟨h', ?_, (e3.mono E_b_z).trans (y2.mono E_q_z), y3⟩
  unfold mo_leastRow
  rw [e1, B_bind, bc_1]
  exact y1
theorem wk_start_s {l : Nat} (hl : l ≤ 4) (W : R_w P T K Y S) (C : C_h h P T K Y S ev) (h6 : h 22 6 = ab) : ∃ h', wk_start (nI l) h = some (0, h') ∧ Wk h' S T D ev ab (Z_lg S T ab) l [] 0 ∧ B_fr E_w h h' := by
  have h10 := W.2.1
  have H : ∀ (j k m : Nat) (g : pH), k + j = 10 → j < m → B_fr (E_a 26) h g → (∀ t, t < k → g 26 t = h 8 t) → ∃ h', wk_start_2 m (nI l) (nI k) g = some (0, h') ∧ Wk h' S T D ev ab (Z_lg S T ab) l [] 0 ∧ B_fr E_w h h' := by
    intro j
    induction j with
    | zero =>
      intro k m g hk hm F e
      obtain ⟨m, rfl⟩ : ∃ n', m = n' + 1 := ⟨m - 1, by omega⟩
      have Fw : B_fr E_w h g := F.mono (fun a k e => by
        have := Nat.eq_of_beq_eq_true e
        subst this
        rfl)
      obtain ⟨h', x1, x2, x3⟩ := wk_startOnLeft_s (D := D) (ev := ev) (h := g) hl (fun _ _ _ => rfl) W W (C.1.sm (Fw.mono E_w_sc).sm_c) (by rw [F 22 6 rfl, h6]) (fun t ht => by rw [e t (by omega), C.1.2.2.2.2.2.2.2.2.1 t ht])
      refine ⟨h', ?_, x2, Fw.trans (x3.mono E_n_w)⟩
      show (if px_c 10 ≤ nI k then _ else _) = _
      rw [bc_10, if_pos (nI_le (by omega) (by omega)), x1, B_bind]
    | succ j ih =>
      intro k m g hk hm F e
      obtain ⟨m, rfl⟩ : ∃ n', m = n' + 1 := ⟨m - 1, by omega⟩
      obtain ⟨h', x1, x2⟩ := ih (k + 1) m (px_w g 26 k (h 8 k)) (by omega) (by omega) (F.w rfl) (fun t ht => by
        rw [B_w_at]
        by_cases q : t = k
        · rw [if_pos q, q]
        · rw [if_neg q]
          exact e t (by omega))
      refine ⟨h', ?_, x2⟩
      show (if px_c 10 ≤ nI k then _ else _) = _
      rw [bc_10, if_neg (nI_ge (by omega) (by omega)), wa_8 (by omega), B_bind, F 8 k rfl, wp_26 (by omega), B_bind, bc_1, nI_add]
      exact x1
  unfold wk_start
  rw [bc_0, ← nI_0]
  exact H 10 0 px_F h rfl (px_F_lt (by omega)) (B_fr.refl _ _) (fun t ht => by omega)
theorem wk_short {l : Nat} (hl : l ≤ 4) (W : R_w P T K Y S) (hD : D ≤ 60) (C : C_h h P T K Y S ev) (h6 : h 22 6 = ab) (h9 : h 22 9 = nI D) : ∃ h4 h', wk_start (nI l) h = some (0, h4) ∧ wk_findShortest h4 = some (nI (Z_sh ev S T D ab l).length, h') ∧ B_fr E_w h h' ∧ (Z_sh ev S T D ab l).length ≤ 4 ∧ ∀ j, j < (Z_sh ev S T D ab l).length → h' 28 j = nI ((Z_sh ev S T D ab l).getD j 0) := by
  obtain ⟨h4, x1, x2, x3⟩ := wk_start_s (D := D) hl W C h6
  obtain ⟨h', y1, y2, y3, y4⟩ := wk_find hl (fun _ _ _ => rfl) W W hD (C.fr (x3.mono E_w_sc)) (by rw [x3 22 6 rfl, h6]) (by rw [x3 22 9 rfl, h9]) x2
  exact ⟨h4, h', x1, y1, x3.trans y2, y3, y4⟩
theorem Z_map_snoc {k : Nat} (hk : k < r.length) : (r.take (k + 1)).map nI = (r.take k).map nI ++ [nI (r.getD k 0)] := by
  rw [take_snoc hk, List.map_append]
  rfl
theorem wk_tellBest_s {l : List Int32} (hr : r.length ≤ 4) (e : ∀ j, j < r.length → h 28 j = nI (r.getD j 0)) (R : B_rc h l) (hl : l.length + r.length ≤ 10) : ∃ h', wk_tellBest (nI r.length) h = some (0, h') ∧ B_rc h' (l ++ r.map nI) ∧ B_fr B_frw h h' := by
  have H : ∀ (j k m : Nat) (g : pH), k + j = r.length → j < m → B_fr B_frw h g → B_rc g (l ++ (r.take k).map nI) → ∃ h', wk_tellBest_2 m (nI r.length) (nI k) g = some (0, h') ∧ B_rc h' (l ++ r.map nI) ∧ B_fr B_frw h h' := by
    intro j
    induction j with
    | zero =>
      intro k m g hk hm F R
      obtain ⟨m, rfl⟩ : ∃ n', m = n' + 1 := ⟨m - 1, by omega⟩
      rw [List.take_of_length_le (by omega)] at R
      refine ⟨g, ?_, R, F⟩
      show (if nI r.length ≤ nI k then _ else _) = _
      rw [if_pos (nI_le (by omega) (by omega))]
    | succ j ih =>
      intro k m g hk hm F R
      obtain ⟨m, rfl⟩ : ∃ n', m = n' + 1 := ⟨m - 1, by omega⟩
      obtain ⟨h1, a1, a2, a3⟩ := tl_add_s (nI (r.getD k 0)) R (by rw [List.length_append, List.length_map, List.length_take]; omega)
      rw [List.append_assoc, ← Z_map_snoc (by omega)] at a2
      obtain ⟨h', x1, x2⟩ := ih (k + 1) m h1 (by omega) (by omega) (F.trans a3) a2
      refine ⟨h', ?_, x2⟩
      show (if nI r.length ≤ nI k then _ else _) = _
      rw [if_neg (nI_ge (by omega) (by omega)), wa_28 (by omega), B_bind, F 28 k rfl, e k (by omega), a1, B_bind, bc_1, nI_add]
      exact x1
  unfold wk_tellBest
  rw [bc_0, ← nI_0]
  exact H r.length 0 px_F h (by omega) (px_F_lt (by omega)) (B_fr.refl _ _) (by rw [List.take_zero, List.map_nil, List.append_nil]; exact R)
theorem mo_fewest_51_s (hr : r.length ≤ 4) (e : M_row h r) (R : B_rm h []) : ∃ h', mo_fewest_51 px_F (nI r.length) 0 h = some (nI r.length, h') ∧ B_rm h' (r.map nI) ∧ B_fr B_frm h h' := by
  have H : ∀ (j k m : Nat) (g : pH), k + j = r.length → j < m → B_fr B_frm h g → B_rm g ((r.take k).map nI) → ∃ h', mo_fewest_51 m (nI r.length) (nI k) g = some (nI r.length, h') ∧ B_rm h' (r.map nI) ∧ B_fr B_frm h h' := by
    intro j
    induction j with
    | zero =>
      intro k m g hk hm F R
      obtain ⟨m, rfl⟩ : ∃ n', m = n' + 1 := ⟨m - 1, by omega⟩
      rw [List.take_of_length_le (by omega)] at R
      refine ⟨g, ?_, R, F⟩
      show (if nI r.length ≤ nI k then _ else _) = _
      rw [if_pos (nI_le (by omega) (by omega))]
    | succ j ih =>
      intro k m g hk hm F R
      obtain ⟨m, rfl⟩ : ∃ n', m = n' + 1 := ⟨m - 1, by omega⟩
      obtain ⟨h1, a1, a2, a3⟩ := mo_tell_s (nI (r.getD k 0)) R (by rw [List.length_map, List.length_take]; omega)
      rw [← Z_map_snoc (by omega)] at a2
      obtain ⟨h', x1, x2⟩ := ih (k + 1) m h1 (by omega) (by omega) (F.trans a3) a2
      refine ⟨h', ?_, x2⟩
      show (if nI r.length ≤ nI k then _ else _) = _
      rw [if_neg (nI_ge (by omega) (by omega)), po_65 (by omega), B_ift, nI_clamp (by omega), F 65 k rfl, e.2.2 k (by omega), a1, B_bind, bc_1, nI_add]
      exact x1
  have := H r.length 0 px_F h (by omega) (px_F_lt (by omega)) (B_fr.refl _ _) (by rw [List.take_zero]; exact R)
  rw [nI_0] at this
  exact this
/-- alone from where one is to a bank: both sides, ready -/
theorem S_beg_go {v0 v1 : Int32} {ev : pE} (I : I_h h P T K Y i n S ev) (q : S_beg S P v0 (-1) v1 = true) : ∃ p f b, p < P ∧ b < 2 ∧ f < 2 + K ∧ ¬ f = b ∧ v0 = nI p ∧ v1 = nI b ∧ S 1 p = nI f ∧ S_dist S Y f b ≤ 60 ∧ cr_begin v0 (-1) v1 h = some (nI 1, B_ld h (nI 1 <<< (nI p &&& 31)) (nI f) (nI b) (nI (S_dist S Y f b))) ∧ C_h (B_ld h (nI 1 <<< (nI p &&& 31)) (nI f) (nI b) (nI (S_dist S Y f b))) P T K Y S ev := by
  obtain ⟨R, M, W, X, V, E, L⟩ := id I
  have h6 := W.1
  have h5 := W.2.2.1
  obtain ⟨p, b, f, hp, hb, hf, rfl, rfl, ef, hfb, -⟩ := S_beg_ex W q
  have l1 := S_yd_le W hf
  have l2 := S_yd_le W (show b < 2 + K by omega)
  refine ⟨p, f, b, hp, hb, hf, hfb, rfl, rfl, ef, by unfold S_dist; omega, ?_, ?_⟩
  · rw [cr_begin_s _ _ _ R W, if_pos q, B_n_nI (by omega), B_n_nI (by omega), ef, B_n_nI (by omega)]
    unfold S_abd
    rw [if_pos rfl, Int32.or_zero]
  · exact C_h.fr ⟨R, L.1⟩ (B_ld_fr h _ _ _ _)
/-- the reference's side, after a frame of the class's -/
theorem I_h.mo {h1 : pH} {ev : pE} (I : I_h h P T K Y i n S ev) (F : B_fr B_sc h h1) : R_m (B_t0 h1) P T K Y S ∧ M_h (B_t0 h1) P T K Y S ev ∧ R_a (B_t0 h1) 52 P T S := by
  obtain ⟨R, M, W, X, V, E, L⟩ := id I
  have M2 : R_m (B_t0 h1) P T K Y S := (M.sm F.sm_c).sm (B_t0_fr _).sm_d
  refine ⟨M2, ⟨M2.1, ?_⟩, M2.2⟩
  rw [B_t0_at _ (by decide), B_t0_row _ (by decide), B_sc_m F (by decide), show h1 63 = h 63 from funext fun k => B_sc_m F (by decide)]
  exact L.2
theorem B_fewest (hI : Inv i h) (v0 v1 : Int32) : ∃ r h1 h2, wu_fewest v0 v1 h = some (r, h1) ∧ mo_fewest v0 v1 h1 = some (r, h2) ∧ Inv (i + 5) h2 := by
  obtain ⟨P, T, K, Y, n, S, ev, I, r⟩ := hI
  obtain ⟨R, M, W, X, V, E, L⟩ := id I
  have h6 := W.1
  have h10 := W.2.1
  have h5 := W.2.2.1
  cases q : S_beg S P v0 (-1) v1 with
  | false =>
    refine ⟨-1, h, B_t0 h, ?_, ?_, B_qr I r⟩
    · unfold wu_fewest
      rw [bc_m1, cr_begin_s _ _ _ R W, q, if_neg (by decide), B_bind, if_pos rfl]
    · have M2 : R_m (B_t0 h) P T K Y S := M.sm (B_t0_fr _).sm_d
      unfold mo_fewest
      rw [bc_0]
      show px_bind (mo_canGo v0 v1 (B_t0 h)) _ = _
      rw [mo_canGo_s _ _ M2 W, q, B_bind, if_pos (show B_01 false = 0 from rfl), bc_m1]
  | true =>
    obtain ⟨p, f, b, hp, hb, hf, hfb, rfl, rfl, ef, hD, ecr, C2⟩ := S_beg_go I q
    have F2 : B_fr B_sc h (B_ld h (nI 1 <<< (nI p &&& 31)) (nI f) (nI b) (nI (S_dist S Y f b))) := B_ld_fr h _ _ _ _
    generalize hab : nI 1 <<< (nI p &&& 31) = ab at *
    obtain ⟨h4, h6', x1, x2, x3, x4, x5⟩ := wk_short (l := 4) (by omega) W hD C2 (B_ld_6 _ _ _ _ _) (B_ld_9 _ _ _ _ _)
    have F6 : B_fr B_sc h h6' := F2.trans (x3.mono E_w_sc)
    have hmo : ∀ hh, R_m (B_t0 hh) P T K Y S → M_h (B_t0 hh) P T K Y S ev → R_a (B_t0 hh) 52 P T S → ∃ h7, mo_fewest (nI p) (nI b) hh = (if nI (Z_sh ev S T (S_dist S Y f b) ab 4).length = 0 then some (-2, h7) else mo_fewest_51 px_F (nI (Z_sh ev S T (S_dist S Y f b) ab 4).length) 0 (px_w h7 51 13 0)) ∧ B_fr E_z (B_t0 hh) h7 ∧ (Z_sh ev S T (S_dist S Y f b) ab 4 ≠ [] → M_row h7 (Z_sh ev S T (S_dist S Y f b) ab 4)) := by
      intro hh M2 MH A
      obtain ⟨h7, y1, y2, y3⟩ := mo_leastRow_s (ab := ab) (most := 4) (by omega) (Or.inl rfl : B_sl 52) (by decide) hf hb W MH A
      refine ⟨h7, ?_, y2, y3⟩
      unfold mo_fewest
      rw [bc_0]
      show px_bind (mo_canGo (nI p) (nI b) (B_t0 hh)) _ = _
      rw [mo_canGo_s _ _ M2 W, q, B_bind, if_neg (by decide), po_52 (by omega), B_ift, nI_clamp (by omega), A.1 p hp, ef, bc_1, hab, bc_4, y1, B_bind, bc_m2]
      unfold mo_fewest_48
      rw [bc_0]
    by_cases hz : Z_sh ev S T (S_dist S Y f b) ab 4 = []
    · obtain ⟨M2, MH, A⟩ := I.mo F6
      obtain ⟨h7, y1, y2, -⟩ := hmo h6' M2 MH A
      rw [hz] at x2 y1
      refine ⟨-2, h6', h7, ?_, ?_, B_q0 I r F6 ((B_t0_fr _).trans (y2.mono E_z_sd)) ?_ ?_ ?_ ?_⟩
      · unfold wu_fewest
        rw [bc_m1, ecr, B_bind, if_neg (by decide), bc_4, x1, B_bind, x2, B_bind, if_pos (show nI ([] : List Nat).length = 0 from nI_0), bc_m2]
      · rw [y1, if_pos (show nI ([] : List Nat).length = 0 from nI_0)]
      · rw [x3 45 1 rfl]; rfl
      · rw [x3.row 46 (fun _ => rfl)]; rfl
      · rw [y2 51 13 rfl, B_t0_at _ (by decide)]
      · rw [y2.row 59 (fun _ => rfl), B_t0_row _ (by decide)]
    · have hl0 : 0 < (Z_sh ev S T (S_dist S Y f b) ab 4).length := List.length_pos_iff.mpr hz
      have hn0 : ¬ nI (Z_sh ev S T (S_dist S Y f b) ab 4).length = 0 := fun w => by
        rw [bn_eq0 (by omega)] at w
        omega
      have F8 : B_fr B_sc h6' (px_w h6' 45 1 0) := (B_fr.refl _ _).w rfl
      obtain ⟨h9, t1, t2, t3⟩ := wk_tellBest_s (r := Z_sh ev S T (S_dist S Y f b) ab 4) (h := px_w h6' 45 1 0) (l := []) x4 (fun j hj => by rw [B_w_cell _ _ _ (show (28 : Nat) ≠ 45 by decide)]; exact x5 j hj) (B_rc_nil h6') (by show 0 + _ ≤ 10; omega)
      have F9 : B_fr B_sc h h9 := (F6.trans F8).trans (t3.mono B_frw_sc)
      obtain ⟨M2, MH, A⟩ := I.mo F9
      obtain ⟨h7, y1, y2, y3⟩ := hmo h9 M2 MH A
      have F10 : B_fr B_frm h7 (px_w h7 51 13 0) := (B_fr.refl _ _).w rfl
      obtain ⟨h11, z1, z2, z3⟩ := mo_fewest_51_s x4 (h := px_w h7 51 13 0) (r := Z_sh ev S T (S_dist S Y f b) ab 4) (by
        have := y3 hz
        refine ⟨by rw [B_w_at, if_neg (by decide)]; exact this.1, this.2.1, fun k hk => by rw [B_w_cell _ _ _ (show (65 : Nat) ≠ 51 by decide)]; exact this.2.2 k hk⟩) (B_rm_nil h7)
      refine ⟨nI (Z_sh ev S T (S_dist S Y f b) ab 4).length, h9, h11, ?_, ?_, B_q1 I F9 ((B_t0_fr _).trans ((y2.mono E_z_sd).trans ((F10.mono B_frm_sd).trans (z3.mono B_frm_sd)))) t2 z2 (by rw [List.length_append, List.length_map]; show 0 + _ ≤ 10; omega)⟩
      · unfold wu_fewest
        rw [bc_m1, ecr, B_bind, if_neg (by decide), bc_4, x1, B_bind, x2, B_bind, if_neg hn0, tl_clear_s, B_bind, t1, B_bind]
      · rw [y1, if_neg hn0, z1]
end SHORTEST
