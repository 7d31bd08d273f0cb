/-! Layer B: there and back: the class -/
theorem foldl_fix {α β : Type} (l : List β) (f : α → β → α) (a : α) (h : ∀ x, x ∈ l → f a x = a) : l.foldl f a = a := by
  induction l with
  | nil => rfl
  | cons x l ih =>
    rw [List.foldl_cons, h x List.mem_cons_self]
    exact ih (fun y hy => h y (List.mem_cons_of_mem _ hy))
theorem R_pl_v {Z : pH} {T : Nat} {ab : Int32} : ∀ d r x, Z_v Z T ab r → r.length + d ≤ 4 → x ∈ R_pl (Z_ok Z T ab) d r → Z_v Z T ab x := by
  intro d
  induction d with
  | zero => intro r x _ _ h; cases h
  | succ d ih =>
    intro r x hv hl h
    unfold R_pl at h
    rw [List.mem_flatMap] at h
    obtain ⟨t, ht, hx⟩ := h
    have v2 := hv.app (by omega) (List.mem_filter.mp ht).2
    rcases List.mem_cons.mp hx with e | e
    · rw [e]
      exact v2
    · exact ih _ _ v2 (by rw [List.length_append, List.length_singleton]; omega) e
theorem R_el_v {Z : pH} {T : Nat} {ab : Int32} : ∀ n r x, Z_v Z T ab r → r.length + n ≤ 4 → x ∈ R_el (Z_ok Z T ab) n r → Z_v Z T ab x := by
  intro n
  induction n with
  | zero =>
    intro r x hv _ h
    rw [List.mem_singleton.mp h]
    exact hv
  | succ n ih =>
    intro r x hv hl h
    unfold R_el at h
    rw [List.mem_flatMap] at h
    obtain ⟨t, ht, hx⟩ := h
    exact ih _ _ (hv.app (by omega) (List.mem_filter.mp ht).2) (by rw [List.length_append, List.length_singleton]; omega) hx
/-- as W_full, where the walk turns back at some rows -/
theorem W_full_d {α : Type} {T D lg : Nat} {Z : pH} {ab : Int32} {dp : List Nat → Bool} (hlg : ∀ t, Z_us Z T ab t = true → B_n (Z 4 t) ≤ lg) (bd : List Nat → α → α) (hno : ∀ r a, ¬ D ≤ S_wds Z r → bd r a = a) (hdp : ∀ r t s a, Z_v Z T ab r → Z_v Z T ab (r ++ t :: s) → ¬ dp r = true → bd (r ++ t :: s) (bd r a) = bd r a) (a : α) : (if Z_rc Z D lg 3 [] = true then W_v (Z_ok Z T ab) (fun _ => 3) (fun _ r => Z_rc Z D lg 3 r) bd dp 4 [] a else a) = (R_pl (Z_ok Z T ab) 3 []).foldl (fun a r => bd r a) a := by
  have hsk : ∀ d r, r.length + d ≤ 3 → ¬ Z_rc Z D lg 3 r = true → ∀ a, (R_pl (Z_ok Z T ab) d r).foldl (fun a r => bd r a) a = a := by
    intro d
    induction d with
    | zero => intro r _ _ a; rfl
    | succ d ih =>
      intro r hl h a
      unfold R_pl
      rw [List.foldl_flatMap]
      refine foldl_id _ _ (fun t ht a => ?_) a
      have hk : Z_ok Z T ab r t = true := (List.mem_filter.mp ht).2
      have h2 : ¬ Z_rc Z D lg 3 (r ++ [t]) = true := by
        intro w
        apply h
        unfold Z_rc at w ⊢
        rw [decide_eq_true_eq] at w ⊢
        rw [S_wds_app, List.length_append, List.length_singleton] at w
        have h1 := hlg t (Z_ok_iff.mp hk).1
        obtain ⟨j, hj⟩ : ∃ j, 3 - r.length = j + 1 := ⟨3 - r.length - 1, by omega⟩
        rw [show 3 - (r.length + 1) = j by omega] at w
        rw [hj, Nat.succ_mul]
        omega
      rw [List.foldl_cons, hno (r ++ [t]) a (fun w => h2 (decide_eq_true (Nat.le_trans w (Nat.le_add_right _ _))))]
      exact ih (r ++ [t]) (by rw [List.length_append, List.length_singleton]; omega) h2 a
  have H : ∀ d r a, Z_v Z T ab r → r.length + d = 3 → W_v (Z_ok Z T ab) (fun _ => 3) (fun _ r => Z_rc Z D lg 3 r) bd dp (d + 1) r a = (R_pl (Z_ok Z T ab) d r).foldl (fun a r => bd r a) a := by
    intro d
    induction d with
    | zero =>
      intro r a _ hl
      exact W_v_stop _ _ _ _ _ 1 r a (by omega)
    | succ d ih =>
      intro r a hv hl
      have e : W_v (Z_ok Z T ab) (fun _ => 3) (fun _ r => Z_rc Z D lg 3 r) bd dp (d + 1 + 1) r a = B_fold (fun t a => if Z_ok Z T ab r t = true then (R_pl (Z_ok Z T ab) d (r ++ [t])).foldl (fun a r => bd r a) (bd (r ++ [t]) a) else a) 0 10 a := by
        show B_fold _ 0 10 a = _
        refine B_fold_eq 10 0 a (fun t _ _ b => ?_)
        unfold W_s
        by_cases c : Z_ok Z T ab r t = true
        · have v2 := hv.app (by omega) c
          rw [if_pos ⟨by show r.length < 3; omega, c⟩, if_pos c]
          by_cases q : Z_rc Z D lg 3 (r ++ [t]) = true
          · by_cases q2 : dp (r ++ [t]) = true
            · rw [if_pos ⟨q2, q⟩]
              exact ih (r ++ [t]) _ v2 (by rw [List.length_append, List.length_singleton]; omega)
            · rw [if_neg (fun w => q2 w.1)]
              refine (foldl_fix _ _ _ (fun x hx => ?_)).symm
              obtain ⟨u, s, ex, _⟩ := R_pl_ext d _ x hx
              have vx := R_pl_v d _ x v2 (by rw [List.length_append, List.length_singleton]; omega) hx
              rw [ex] at vx ⊢
              exact hdp (r ++ [t]) u s _ v2 vx q2
          · rw [if_neg (fun w => q w.2)]
            exact (hsk d (r ++ [t]) (by rw [List.length_append, List.length_singleton]; omega) q _).symm
        · rw [if_neg (fun w => c w.2), if_neg c]
      have e2 : R_pl (Z_ok Z T ab) (d + 1) r = (R_ch (Z_ok Z T ab) r).flatMap (fun t => (r ++ [t]) :: R_pl (Z_ok Z T ab) d (r ++ [t])) := rfl
      rw [e, B_fold_ch, e2, List.foldl_flatMap]
      rfl
  by_cases c : Z_rc Z D lg 3 [] = true
  · rw [if_pos c]
    exact H 3 [] a Z_v.nil rfl
  · rw [if_neg c]
    exact (hsk 3 [] (by show 0 + 3 ≤ 3; omega) c a).symm
/-- what is left of the words after a row -/
noncomputable def K_Z (ev : pE) (S : pH) (D : Nat) (ab : Int32) (r : List Nat) : pH := (S_go ev S D ab r).2.2
noncomputable def K_hx (ev : pE) (S : pH) (T D : Nat) (ab : Int32) (n : Nat) (r : List Nat) : Option (List Nat) := F_x (Z_ok (K_Z ev S D ab r) T ab) (Z_ov ev (K_Z ev S D ab r) D ab) n []
theorem K_hx_len {ev : pE} {S : pH} {T D : Nat} {ab : Int32} : ∀ n r y, K_hx ev S T D ab n r = some y → y.length = n := fun n r y h => by
  have := F_x_len _ _ _ h
  rw [List.length_nil, Nat.zero_add] at this
  exact this
noncomputable abbrev K_b (ev : pE) (S : pH) (T D : Nat) (ab : Int32) : List Nat → K_T → K_T := K_bd (Z_ov ev S D ab) (K_hx ev S T D ab)
section BACKC
variable {i : Nat} {h : pH} {P T K Y D lg p b f n m q : Nat} {S : pH} {ev : pE} {ab : Int32} {r : List Nat}
theorem S_go_stop (W : R_w P T K Y S) (hv : Z_v S T ab r) {s : List Nat} (hs : ∀ t, t ∈ s → t < T) (h : ¬ Z_dp ev S D ab r = true) : S_go ev S D ab (r ++ s) = S_go ev S D ab r := by
  have e : S_go ev S D ab (r ++ s) = s.foldl (S_st ev S D ab) (S_go ev S D ab r) := by
    unfold S_go
    rw [List.foldl_append]
  rw [e]
  cases q : (S_go ev S D ab r).2.1 with
  | some x => exact foldl_some s _ q
  | none =>
    have hw : D ≤ S_wds S r := by
      unfold Z_dp at h
      rw [q] at h
      simp only [Bool.and_eq_true, decide_eq_true_eq, and_true] at h
      omega
    have hD := hv.none W q
    exact foldl_done s _ (by omega) q hs (foldl_W r (0, none, S) hv.lt W)
theorem S_wds_le_app (r s : List Nat) : S_wds S r ≤ S_wds S (r ++ s) := by
  unfold S_wds
  rw [List.map_append, List.sum_append]
  exact Nat.le_add_right _ _
theorem K_hdp (W : R_w P T K Y S) : ∀ r t s a, Z_v S T ab r → Z_v S T ab (r ++ t :: s) → ¬ Z_dp ev S D ab r = true → K_b ev S T D ab (r ++ t :: s) (K_b ev S T D ab r a) = K_b ev S T D ab r a := by
  intro r t s a hv hv2 h
  have hs : ∀ u, u ∈ t :: s → u < T := fun u hu => hv2.lt u (List.mem_append.mpr (Or.inr hu))
  have e := S_go_stop W hv hs h
  have ehx : K_hs (K_hx ev S T D ab) (r ++ t :: s) = K_hs (K_hx ev S T D ab) r := by
    unfold K_hs K_hx K_Z
    rw [e]
  have el : (r ++ t :: s).length = r.length + (s.length + 1) := by rw [List.length_append, List.length_cons]
  unfold K_b K_bd
  rw [ehx, el]
  by_cases c : Z_ov ev S D ab r = true ∧ K_hs (K_hx ev S T D ab) r ≠ [] ∧ r.length + (K_hs (K_hx ev S T D ab) r).length + (if a.2.1 ≤ r.length then 1 else 0) ≤ a.1
  · rw [if_pos c]
    dsimp only
    rw [if_neg]
    intro w
    have := w.2.2
    rw [if_pos (by omega)] at this
    omega
  · rw [if_neg c, if_neg]
    intro w
    by_cases d : Z_ov ev S D ab r = true
    · have h1 := w.2.2
      refine c ⟨d, w.2.1, ?_⟩
      split <;> omega
    · have h2 := w.1
      apply d
      unfold Z_ov at h2 ⊢
      rw [e] at h2
      simp only [Bool.and_eq_true, decide_eq_true_eq] at h2 ⊢
      refine ⟨?_, h2.2⟩
      unfold Z_dp at h
      rw [h2.2] at h
      simp only [Bool.and_eq_true, decide_eq_true_eq, and_true] at h
      omega
theorem K_no : ∀ r a, ¬ D ≤ S_wds S r → K_b ev S T D ab r a = a := fun r a h => by
  unfold K_b K_bd
  rw [if_neg]
  intro w
  have := w.1
  unfold Z_ov at this
  rw [decide_eq_false h] at this
  cases this
theorem bk_room : ∀ a, a < 8 → ∀ s, s < 4 → ∀ e, e < 2 → ((nI a - nI s - nI e ≤ 0) ↔ a ≤ s + e) ∧ (s + e < a → nI a - nI s - nI e = nI (a - s - e)) := by decide +kernel
def E_y : Nat → Nat → Bool := fun a k => E_w a k || E_w_h a k || B_frw a k
theorem E_y_sc : ∀ a k, E_y a k = true → B_sc a k = true := fun a k e => by
  unfold E_y at e
  rcases Bool.or_eq_true_iff.mp e with e | e
  · rcases Bool.or_eq_true_iff.mp e with e | e
    · exact E_w_sc a k e
    · exact E_w_sc_h a k e
  · exact B_frw_sc a k e
theorem E_w_y : ∀ a k, E_w a k = true → E_y a k = true := fun a k e => by unfold E_y; rw [e]; rfl
theorem E_wh_y : ∀ a k, E_w_h a k = true → E_y a k = true := fun a k e => by unfold E_y; rw [e, Bool.or_true]; rfl
theorem B_frw_y : ∀ a k, B_frw a k = true → E_y a k = true := fun a k e => by unfold E_y; rw [e, Bool.or_true]
/-- what the way home writes -/
def E_yh : Nat → Nat → Bool := fun a k => E_w_h a k || B_frw a k
theorem E_yh_y : ∀ a k, E_yh a k = true → E_y a k = true := fun a k e => by
  unfold E_yh at e
  rcases Bool.or_eq_true_iff.mp e with e | e
  · exact E_wh_y a k e
  · exact B_frw_y a k e
theorem Wk.fy {h' : pH} (k : Wk h S T D ev ab lg m r q) (x : B_fr E_yh h h') : Wk h' S T D ev ab lg m r q := by
  unfold Wk at *
  rw [x 25 9 rfl, x 25 10 rfl, x 25 11 rfl, x 25 12 rfl, x.row 26 (fun _ => rfl), x.row 27 (fun _ => rfl), x.row 29 (fun _ => rfl), x.row 30 (fun _ => rfl), x.row 31 (fun _ => rfl)]
  exact k
theorem S_st_sp (W : R_w P T K Y S) {x : Nat × Option Nat × pH} (hx : ∀ k, k < T → B_lt (x.2.2 4 k) 41) {t : Nat} (ht : t < T) : ∃ g, g ≤ B_n (x.2.2 4 t) ∧ (S_st ev S D ab x t).1 = x.1 + g ∧ (S_st ev S D ab x t).2.2 4 t = nI (B_n (x.2.2 4 t) - g) ∧ ∀ j, j ≠ t → (S_st ev S D ab x t).2.2 4 j = x.2.2 4 j := by
  unfold S_st
  cases q : x.2.1 with
  | some y =>
    refine ⟨0, Nat.zero_le _, rfl, ?_, fun _ _ => rfl⟩
    exact (B_lt_n (by omega) (hx t ht)).2
  | none =>
    refine ⟨_, ?_, rfl, B_w_same _ _ _ _, fun j hj => px_w_nq (fun w => hj w.2)⟩
    have := (B_first_le (S_bu ev S ab t (B_n (x.2.2 4 t)) x.1) (min (B_n (x.2.2 4 t)) (D - x.1)) 0).2
    omega
theorem wk_leaveTo_s (W : R_w P T K Y S) (hD : D ≤ 60) (hv : Z_v S T ab r) (k : Wk h S T D ev ab lg m r r.length) : ∃ h', wk_leaveTo h = some (0, h') ∧ (∀ t, t < T → h' 34 t = K_Z ev S D ab r 4 t) ∧ B_fr (E_a 34) h h' := by
  have h10 := W.2.1
  have hr4 := hv.1
  obtain ⟨k9, k10, k11, k12, k26, k27, k29⟩ := k
  have H2 : ∀ (j k n : Nat) (g : pH), k + j = r.length → j < n → B_fr (E_a 34) h g → (∀ t, t < T → g 34 t = (S_go ev S D ab (r.take k)).2.2 4 t) → ∃ h', wk_leaveTo_34 n (nI (S_go ev S D ab (r.take k)).1) (nI k) g = some (0, h') ∧ (∀ t, t < T → h' 34 t = K_Z ev S D ab r 4 t) ∧ B_fr (E_a 34) h h' := by
    intro j
    induction j with
    | zero =>
      intro k n g hk hn F e
      obtain ⟨n, rfl⟩ : ∃ n', n = n' + 1 := ⟨n - 1, by omega⟩
      rw [List.take_of_length_le (by omega)] at e
      refine ⟨g, ?_, e, F⟩
      show (if g 25 9 ≤ nI k then _ else _) = _
      rw [F 25 9 rfl, k9, if_pos (nI_le (by omega) (by omega))]
    | succ j ih =>
      intro k n g hk hn F e
      obtain ⟨n, rfl⟩ : ∃ n', n = n' + 1 := ⟨n - 1, by omega⟩
      have htT : r.getD k 0 < T := hv.lt _ (getD_memN (by omega))
      have hni : r.getD k 0 ∉ r.take k := by
        have hnd := hv.2.1
        rw [← List.take_append_drop (k + 1) r, take_snoc (by omega), List.append_assoc, List.nodup_append] at hnd
        exact fun w => hnd.2.2 _ w _ (List.mem_append.mpr (Or.inl (List.mem_singleton.mpr rfl))) rfl
      have hxW : R_w P T K Y (S_go ev S D ab (r.take k)).2.2 := foldl_W _ (0, none, S) (fun t ht => hv.lt t (List.mem_of_mem_take ht)) W
      have e4 : (S_go ev S D ab (r.take k)).2.2 4 (r.getD k 0) = S 4 (r.getD k 0) := foldl_ne _ (0, none, S) 4 _ (fun w => hni w.2)
      obtain ⟨c, c1, c2, c3, c4⟩ := S_st_sp (ev := ev) (D := D) (ab := ab) W (x := S_go ev S D ab (r.take k)) (fun j hj => hxW.2.2.2.2.2.2.2.2.1 j hj) htT
      rw [← S_go_app, ← take_snoc (by omega)] at c2 c3 c4
      rw [e4] at c1 c3
      have hL := B_lt_n (by omega) (W.2.2.2.2.2.2.2.2.1 _ htT)
      have hle := S_go_le (ev := ev) (Z := S) (D := D) (ab := ab) (r.take k)
      have ev2 : S 4 (r.getD k 0) - (nI (S_go ev S D ab (r.take (k + 1))).1 - nI (S_go ev S D ab (r.take k)).1) = nI (B_n (S 4 (r.getD k 0)) - c) := by
        conv => lhs; rw [hL.2]
        rw [c2, pk_sub (by omega), Nat.add_sub_cancel_left, pk_sub c1]
      obtain ⟨h', x1, x2⟩ := ih (k + 1) n (px_w g 34 (r.getD k 0) (nI (B_n (S 4 (r.getD k 0)) - c))) (by omega) (by omega) (F.w rfl) (fun t ht => by
        rw [B_w_at]
        by_cases w : t = r.getD k 0
        · rw [if_pos w, w, c3]
        · rw [if_neg w, c4 t w]
          exact e t ht)
      refine ⟨h', ?_, x2⟩
      have F2 : B_fr (E_a 34) h (px_w g 34 (r.getD k 0) (nI (B_n (S 4 (r.getD k 0)) - c))) := F.w rfl
      show (if g 25 9 ≤ nI k then _ else _) = _
      rw [F 25 9 rfl, k9, if_neg (nI_ge (by omega) (by omega)), wa_27 (by omega), B_bind, F 27 k rfl, (k27 k (by omega)).1, wa_26 (by omega), B_bind, F 26 _ rfl, k26 _ htT, wa_29 (by omega), B_bind, F 29 k rfl, (k29 k (by omega)).1, ev2, wp_34 (by omega), B_bind, wa_29 (by omega), B_bind, F2 29 k rfl, (k29 k (by omega)).1, bc_1, nI_add]
      exact x1
  have H1 : ∀ (j k n : Nat) (g : pH), k + j = 10 → j < n → B_fr (E_a 34) h g → (∀ t, t < k → g 34 t = h 26 t) → ∃ h', wk_leaveTo_2 n (nI k) g = some (0, h') ∧ (∀ t, t < T → h' 34 t = K_Z ev S D ab r 4 t) ∧ B_fr (E_a 34) h h' := by
    intro j
    induction j with
    | zero =>
      intro k n g hk hn F e
      obtain ⟨n, rfl⟩ : ∃ n', n = n' + 1 := ⟨n - 1, by omega⟩
      obtain ⟨h', x1, x2⟩ := H2 r.length 0 px_F g (by omega) (px_F_lt (by omega)) F (fun t ht => by rw [e t (by omega), k26 t ht]; rfl)
      refine ⟨h', ?_, x2⟩
      show (if px_c 10 ≤ nI k then _ else _) = _
      rw [bc_10, if_pos (nI_le (by omega) (by omega)), bc_0]
      have e0 : nI (S_go ev S D ab (r.take 0)).1 = 0 := nI_0
      rw [e0, nI_0] at x1
      exact x1
    | succ j ih =>
      intro k n g hk hn F e
      obtain ⟨n, rfl⟩ : ∃ n', n = n' + 1 := ⟨n - 1, by omega⟩
      obtain ⟨h', x1, x2⟩ := ih (k + 1) n (px_w g 34 k (h 26 k)) (by omega) (by omega) (F.w rfl) (fun t ht => by
        rw [B_w_at]
        by_cases w : t = k
        · rw [if_pos w, w]
        · rw [if_neg w]
          exact e t (by omega))
      refine ⟨h', ?_, x2⟩
      show (if px_c 10 ≤ nI k then _ else _) = _
      rw [bc_10, if_neg (nI_ge (by omega) (by omega)), wa_26 (by omega), B_bind, F 26 k rfl, wp_34 (by omega), B_bind, bc_1, nI_add]
      exact x1
  unfold wk_leaveTo
  rw [bc_0, ← nI_0]
  exact H1 10 0 px_F h rfl (px_F_lt (by omega)) (B_fr.refl _ _) (fun t ht => by omega)
theorem wk_tellBest_h_s {l : List Int32} (hr : r.length ≤ 4) (e : ∀ j, j < r.length → h 36 j = nI (r.getD j 0)) (R : B_rc h l) (hl : l.length + r.length ≤ 10) : ∃ h', wk_tellBest_h (nI r.length) h = some (0, h') ∧ B_rc h' (l ++ r.map nI) ∧ B_fr B_frw h h' := by
  have H : ∀ (j k m : Nat) (g : pH), k + j = r.length → j < m → B_fr B_frw h g → B_rc g (l ++ (r.take k).map nI) → ∃ h', wk_tellBest_h_2 m (nI r.length) (nI k) g = some (0, h') ∧ B_rc h' (l ++ r.map nI) ∧ B_fr B_frw h h' := by
    intro j
    induction j with
    | zero =>
      intro k m g hk hm F R
      obtain ⟨m, rfl⟩ : ∃ n', m = n' + 1 := ⟨m - 1, by omega⟩
      rw [List.take_of_length_le (by omega)] at R
      refine ⟨g, ?_, R, F⟩
      show (if nI r.length ≤ nI k then _ else _) = _
      rw [if_pos (nI_le (by omega) (by omega))]
    | succ j ih =>
      intro k m g hk hm F R
      obtain ⟨m, rfl⟩ : ∃ n', m = n' + 1 := ⟨m - 1, by omega⟩
      obtain ⟨h1, a1, a2, a3⟩ := tl_add_s (nI (r.getD k 0)) R (by rw [List.length_append, List.length_map, List.length_take]; omega)
      rw [List.append_assoc, ← Z_map_snoc (by omega)] at a2
      obtain ⟨h', x1, x2⟩ := ih (k + 1) m h1 (by omega) (by omega) (F.trans a3) a2
      refine ⟨h', ?_, x2⟩
      show (if nI r.length ≤ nI k then _ else _) = _
      rw [if_neg (nI_ge (by omega) (by omega)), wa_36 (by omega), B_bind, F 36 k rfl, e k (by omega), a1, B_bind, bc_1, nI_add]
      exact x1
  unfold wk_tellBest_h
  rw [bc_0, ← nI_0]
  exact H r.length 0 px_F h (by omega) (px_F_lt (by omega)) (B_fr.refl _ _) (by rw [List.take_zero, List.map_nil, List.append_nil]; exact R)
/-- the ROW that is told -/
def K_rw (a : K_T) : List Int32 := nI a.2.1 :: (a.2.2.1.map nI ++ a.2.2.2.map nI)
def K_Q (h0 : pH) (a : K_T) (h : pH) : Prop := a.1 ≤ 7 ∧ a.2.1 ≤ 4 ∧ (a.1 = 7 → h 45 1 = h0 45 1 ∧ h 46 = h0 46) ∧ (a.1 < 7 → B_rc h (K_rw a))
theorem K_Q.fr {h0 h' : pH} {a : K_T} (k : K_Q h0 a h) (e1 : h' 45 1 = h 45 1) (e2 : h' 46 = h 46) : K_Q h0 a h' := by
  unfold K_Q B_rc at *
  rw [e1, e2]
  exact k
theorem wu_bothWays_s {s : List Nat} (hr : r.length ≤ 4) (hs : s.length ≤ 4) (k9 : h 25 9 = nI r.length) (e27 : ∀ j, j < r.length → h 27 j = nI (r.getD j 0)) (e36 : ∀ j, j < s.length → h 36 j = nI (s.getD j 0)) : ∃ h', wu_tellBothWays (nI s.length) h = some (0, h') ∧ B_rc h' (nI r.length :: (r.map nI ++ s.map nI)) ∧ B_fr B_frw h h' := by
  have F0 : B_fr B_frw h (px_w h 45 1 0) := (B_fr.refl _ _).w rfl
  obtain ⟨h1, a1, a2, a3⟩ := tl_add_s (nI r.length) (B_rc_nil h) (by show 0 < 10; omega)
  have F1 := F0.trans a3
  obtain ⟨h2, b1, b2, b3⟩ := wk_tellRow_s hr (h := h1) (by rw [F1 25 9 rfl]; exact k9) (fun j hj => by rw [F1 27 j rfl]; exact e27 j hj) a2 (by show 1 + _ ≤ 10; omega)
  have F2 := F1.trans b3
  obtain ⟨h3, c1, c2, c3⟩ := wk_tellBest_h_s hs (h := h2) (fun j hj => by rw [F2 36 j rfl]; exact e36 j hj) b2 (by rw [List.length_append, List.length_map]; show 0 + 1 + _ + _ ≤ 10; omega)
  refine ⟨h3, ?_, ?_, F2.trans c3⟩
  · unfold wu_tellBothWays
    rw [tl_clear_s, B_bind, B_w_cell _ _ _ (show (25 : Nat) ≠ 45 by decide), k9, a1, B_bind, b1, B_bind, c1, B_bind]
  · rw [List.nil_append, List.append_assoc] at c2
    exact c2
/-- what is done at a row -/
theorem wu_back_101_s {h0 : pH} {r46 : Int32 → Int32 → Int32 → Int32 → pH → pR} {d : Bool} {x6 : Nat} {a : K_T} (W : R_w P T K Y S) (hD : D ≤ 60) (C : C_h h P T K Y S ev) (h6 : h 22 6 = ab) (h9 : h 22 9 = nI D) (nd : Nd h S T D ev ab lg 3 r) (hv : Z_v S T ab r) (hl : r.length ≤ 3) (hne : r ≠ []) (Q : K_Q h0 a h) : ∃ h', wu_back_101 r46 (nI a.1) (nI a.2.1) (B_01 d) (nI x6) (nI (if a.2.1 ≤ r.length then 1 else 0)) (nI a.1 - nI r.length) h = r46 (nI (K_b ev S T D ab r a).1) (nI (K_b ev S T D ab r a).2.1) (B_01 d) (nI (x6 + 1)) h' ∧ K_Q h0 (K_b ev S T D ab r a) h' ∧ B_fr E_yh h h' := by
  have h10 := W.2.1
  obtain ⟨q1, q2, q3, q4⟩ := id Q
  have hroom := bk_room a.1 (by omega) r.length (by omega) (if a.2.1 ≤ r.length then 1 else 0) (by split <;> omega)
  have e155 : ∀ g, wu_back_155 r46 (nI a.1) (nI a.2.1) (B_01 d) (nI x6) 0 g = r46 (nI a.1) (nI a.2.1) (B_01 d) (nI (x6 + 1)) g := fun g => by
    unfold wu_back_155 wu_back_186
    rw [if_pos (by decide), bc_1, nI_add]
  obtain ⟨i1, -⟩ := wk_node W hD h9 nd hv hne
  have k9 : h 25 9 = nI r.length := nd.k1.1
  unfold wu_back_101
  dsimp only
  rw [i1, B_bind, bc_0]
  by_cases ho : Z_ov ev S D ab r = true
  · rw [ho, if_neg (show ¬ B_01 true = 0 by decide)]
    by_cases hr0 : a.1 ≤ r.length + (if a.2.1 ≤ r.length then 1 else 0)
    · have e : K_b ev S T D ab r a = a := by
        unfold K_b K_bd
        rw [if_neg]
        intro w
        have h1 := List.length_pos_iff.mpr w.2.1
        have h2 := w.2.2
        omega
      rw [if_pos (hroom.1.mpr hr0), e155, e]
      exact ⟨h, rfl, Q, B_fr.refl _ _⟩
    · have hw : D ≤ S_wds S r := by
        unfold Z_ov at ho
        simp only [Bool.and_eq_true, decide_eq_true_eq] at ho
        exact ho.1
      have kf := nd.k2 (Z_rc_of hw)
      have hZ : ∀ i k, i ≠ 4 → K_Z ev S D ab r i k = S i k := fun i k hi => foldl_ne r (0, none, S) i k (fun w => hi w.1)
      have WZ : R_w P T K Y (K_Z ev S D ab r) := foldl_W r (0, none, S) hv.lt W
      obtain ⟨h1, x1, x2, x3⟩ := wk_leaveTo_s W hD hv kf
      have F1 : B_fr E_w_h h h1 := x3.mono (fun a k e => by
        have := Nat.eq_of_beq_eq_true e
        subst this
        rfl)
      have hg : ¬ nI a.1 - nI r.length - nI (if a.2.1 ≤ r.length then 1 else 0) ≤ 0 := fun w => hr0 (hroom.1.mp w)
      have hl3 : min (a.1 - r.length - (if a.2.1 ≤ r.length then 1 else 0)) 3 ≤ 4 := by omega
      have C1 := C.fr (F1.mono E_w_sc_h)
      obtain ⟨h2, y1, y2, y3⟩ := wk_startOnLeft_h_s (D := D) (ev := ev) (h := h1) (Z := K_Z ev S D ab r) hl3 hZ W WZ C1.1 (by rw [F1 22 6 rfl, h6]) x2
      have F2 : B_fr E_w_h h h2 := F1.trans (y3.mono E_n_w_h)
      obtain ⟨h3, z1, z2, z3, z4⟩ := wk_find_h (h := h2) hl3 hZ W WZ hD (C.fr (F2.mono E_w_sc_h)) (by rw [F2 22 6 rfl, h6]) (by rw [F2 22 9 rfl, h9]) y2
      have F3 : B_fr E_w_h h h3 := F2.trans z2
      have F3y : B_fr E_yh h h3 := F3.mono (fun a k e => by unfold E_yh; rw [e]; rfl)
      have esh : Z_sh ev (K_Z ev S D ab r) T D ab (min (a.1 - r.length - (if a.2.1 ≤ r.length then 1 else 0)) 3) = if (K_hs (K_hx ev S T D ab) r).length ≤ min (a.1 - r.length - (if a.2.1 ≤ r.length then 1 else 0)) 3 then K_hs (K_hx ev S T D ab) r else [] := by
        have := K_hs_room (hx := K_hx ev S T D ab) K_hx_len (r := r) (l := min (a.1 - r.length - (if a.2.1 ≤ r.length then 1 else 0)) 3) (by omega)
        rw [← this]
        rfl
      rw [esh] at z1 z3 z4
      rw [if_neg hg, x1, B_bind, hroom.2 (by omega), bc_3, px_min_nI (by omega) (by omega), y1, B_bind, z1, B_bind]
      have Q3 : K_Q h0 a h3 := Q.fr (by rw [F3 45 1 rfl]) (F3.row 46 (fun _ => rfl))
      by_cases c : K_hs (K_hx ev S T D ab) r ≠ [] ∧ (K_hs (K_hx ev S T D ab) r).length ≤ min (a.1 - r.length - (if a.2.1 ≤ r.length then 1 else 0)) 3
      · obtain ⟨c1, c2⟩ := c
        have hl0 := List.length_pos_iff.mpr c1
        rw [if_pos c2] at z3 z4 ⊢
        have eb : K_b ev S T D ab r a = (r.length + (K_hs (K_hx ev S T D ab) r).length, r.length, r, K_hs (K_hx ev S T D ab) r) := by
          unfold K_b K_bd
          rw [if_pos ⟨ho, c1, by omega⟩]
        obtain ⟨k1, k2, -, -⟩ := K_hs_of (hx := K_hx ev S T D ab) K_hx_len c1
        obtain ⟨h4, t1, t2, t3⟩ := wu_bothWays_s (h := h3) (r := r) (s := K_hs (K_hx ev S T D ab) r) (by omega) z3 (by rw [F3 25 9 rfl]; exact k9) (fun j hj => by rw [F3 27 j rfl]; exact (kf.2.2.2.2.2.1 j hj).1) z4
        refine ⟨h4, ?_, ?_, F3y.trans (t3.mono (fun a k e => by unfold E_yh; rw [e, Bool.or_true]))⟩
        · rw [eb]
          unfold wu_back_155 wu_back_186
          rw [if_neg (fun w => by rw [bn_le0 (by omega)] at w; omega)]
          dsimp only
          rw [F3 25 9 rfl, k9, t1, B_bind, nI_add, bc_1, nI_add]
        · rw [eb]
          refine ⟨by show r.length + _ ≤ 7; omega, by show r.length ≤ 4; omega, fun w => ?_, fun _ => t2⟩
          change r.length + _ = 7 at w
          omega
      · have eb : K_b ev S T D ab r a = a := by
          unfold K_b K_bd
          rw [if_neg]
          intro w
          by_cases d : K_hs (K_hx ev S T D ab) r = []
          · exact w.2.1 d
          · obtain ⟨k1, k2, -, -⟩ := K_hs_of (hx := K_hx ev S T D ab) K_hx_len d
            have := w.2.2
            exact c ⟨d, by omega⟩
        have e0 : nI (if (K_hs (K_hx ev S T D ab) r).length ≤ min (a.1 - r.length - (if a.2.1 ≤ r.length then 1 else 0)) 3 then K_hs (K_hx ev S T D ab) r else []).length = 0 := by
          by_cases d : (K_hs (K_hx ev S T D ab) r).length ≤ min (a.1 - r.length - (if a.2.1 ≤ r.length then 1 else 0)) 3
          · rw [if_pos d]
            by_cases d2 : K_hs (K_hx ev S T D ab) r = []
            · rw [d2]; exact nI_0
            · exact absurd ⟨d2, d⟩ c
          · rw [if_neg d]
            exact nI_0
        rw [e0, e155, eb]
        exact ⟨h3, rfl, Q3, F3y⟩
  · have e : K_b ev S T D ab r a = a := by
      unfold K_b K_bd
      rw [if_neg (fun w => ho w.1)]
    have hf : Z_ov ev S D ab r = false := by
      cases w : Z_ov ev S D ab r with
      | false => rfl
      | true => exact absurd w ho
    rw [hf, if_pos (show B_01 false = 0 from rfl), e155, e]
    exact ⟨h, rfl, Q, B_fr.refl _ _⟩
theorem wu_back_sim {h0 : pH} (W : R_w P T K Y S) (hD : D ≤ 60) (hlg : lg ≤ 40) : ∀ (N : Nat) (r : List Nat) (k n : Nat) (d : Bool) (h : pH) (a x : K_T), W_l (Z_ok S T ab) (fun _ => 3) (fun _ r => Z_rc S D lg 3 r) (K_b ev S T D ab) (Z_dp ev S D ab) N (N_x (Z_ok S T ab) 3 (Z_rc S D lg 3 r) r d) a = some x → Z_v S T ab r → C_h h P T K Y S ev → h 22 6 = ab → h 22 9 = nI D → Wk h S T D ev ab lg 3 r (r.length - 1) → (Z_rc S D lg 3 r = true → Wk h S T D ev ab lg 3 r r.length) → K_Q h0 a h → k + N ≤ 1000000 → N ≤ n → ∃ h', wu_back_46 n (nI a.1) (nI a.2.1) (B_01 d) (nI k) h = wu_back_192 (nI x.1) h' ∧ K_Q h0 x h' ∧ B_fr E_y h h' := by
  intro N
  induction N with
  | zero => intro r k n d h a x hx; cases hx
  | succ N ih =>
    intro r k n d h a x hx hv C h6 h9 kk kc qa hk hn
    obtain ⟨n, rfl⟩ : ∃ n', n = n' + 1 := ⟨n - 1, by omega⟩
    have ek : px_k 1000000 = nI 1000000 := px_k_eq _
    obtain ⟨h1, F1, o⟩ := wk_next_s (d := d) (fun _ _ _ => rfl) W W hD (show 3 ≤ 4 by omega) hlg C h6 h9 kk kc hv
    have F1y : B_fr E_y h h1 := F1.mono (fun a k e => E_w_y a k (E_n_w a k e))
    have hz : wu_back_46 (n + 1) (nI a.1) (nI a.2.1) (B_01 d) (nI k) h = px_bind (wk_next (B_01 d) h) fun z1 h2 => if z1 = 0 then wu_back_192 (nI a.1) h2 else px_bind (wk_isUnderWay h2) fun z3 h4 => if nI a.2.1 ≤ (h4 25 9) then wu_back_101 (wu_back_46 n) (nI a.1) (nI a.2.1) z3 (nI k) (px_c 1) (nI a.1 - (h4 25 9)) h4 else wu_back_101 (wu_back_46 n) (nI a.1) (nI a.2.1) z3 (nI k) (px_c 0) (nI a.1 - (h4 25 9)) h4 := by
      show (if px_k 1000000 ≤ nI k then _ else _) = _
      rw [ek, if_neg (nI_ge (by omega) (by omega))]
    rw [hz]
    rcases o with ⟨o1, o2⟩ | ⟨r2, o1, o2, v2, l2, n2, nd⟩
    · rw [o1] at hx
      change some a = some x at hx
      cases hx
      rw [o2, B_bind, if_pos rfl]
      exact ⟨h1, rfl, qa.fr (by rw [F1 45 1 rfl]) (F1.row 46 (fun _ => rfl)), F1y⟩
    · rw [o1] at hx
      change W_l _ _ _ _ _ N (N_x _ 3 (Z_rc S D lg 3 r2) r2 (Z_dp ev S D ab r2)) (K_b ev S T D ab r2 a) = some x at hx
      have C1 := C.fr (F1.mono E_n_sc)
      have e6 : h1 22 6 = ab := by rw [F1 22 6 rfl, h6]
      have e9 : h1 22 9 = nI D := by rw [F1 22 9 rfl, h9]
      obtain ⟨i1, d', i3, i4⟩ := wk_node W hD e9 nd v2 n2
      have e2 : N_x (Z_ok S T ab) 3 (Z_rc S D lg 3 r2) r2 (Z_dp ev S D ab r2) = N_x (Z_ok S T ab) 3 (Z_rc S D lg 3 r2) r2 d' := by
        rcases i4 with i4 | i4
        · rw [i4]
        · exact N_x_rc i4 _ _
      rw [e2] at hx
      have Q1 : K_Q h0 a h1 := qa.fr (by rw [F1 45 1 rfl]) (F1.row 46 (fun _ => rfl))
      obtain ⟨h3, g1, g2, g3⟩ := wu_back_101_s (r46 := wu_back_46 n) (d := d') (x6 := k) W hD C1 e6 e9 nd v2 l2 n2 Q1
      have F3y : B_fr E_y h1 h3 := g3.mono E_yh_y
      obtain ⟨h', y1, y2, y3⟩ := ih r2 (k + 1) n d' h3 (K_b ev S T D ab r2 a) x hx v2 (C1.fr (F3y.mono E_y_sc)) (by rw [g3 22 6 rfl, e6]) (by rw [g3 22 9 rfl, e9]) (nd.k1.fy g3) (fun c => (nd.k2 c).fy g3) g2 (by omega) (by omega)
      refine ⟨h', ?_, y2, (F1y.trans F3y).trans y3⟩
      rw [o2, B_bind, if_neg (by decide), i3, B_bind, nd.k1.1]
      have hq := qa.2.1
      by_cases c : a.2.1 ≤ r2.length
      · rw [if_pos c] at g1
        rw [if_pos (nI_le c (by omega)), bc_1, g1, y1]
      · rw [if_neg c, nI_0] at g1
        rw [if_neg (nI_ge (by omega) (by omega)), bc_0, g1, y1]
theorem wu_back_s {h0 : pH} (W : R_w P T K Y S) (hD : D ≤ 60) (C : C_h h P T K Y S ev) (h6 : h 22 6 = ab) (h9 : h 22 9 = nI D) (kk : Wk h S T D ev ab (Z_lg S T ab) 3 [] 0) (e1 : h 45 1 = h0 45 1) (e2 : h 46 = h0 46) : ∃ h' x, K_sp (Z_ov ev S D ab) (K_hx ev S T D ab) (R_pl (Z_ok S T ab) 3 []) x ∧ wu_back_46 px_F (nI 7) (nI 4) (nI 1) 0 h = wu_back_192 (nI x.1) h' ∧ K_Q h0 x h' ∧ B_fr E_y h h' := by
  have h12 : 12000 < px_F := px_F_lt (by omega)
  have e := W_end (Z_ok S T ab) (fun _ => 3) (fun (_ : K_T) r => Z_rc S D (Z_lg S T ab) 3 r) (K_b ev S T D ab) (Z_dp ev S D ab) (fun _ => by show 3 ≤ 4; omega) (7, 4, [], [])
  rw [W_full_d (Z_lg_ge W.2.1) (K_b ev S T D ab) K_no (K_hdp W)] at e
  obtain ⟨h', y1, y2, y3⟩ := wu_back_sim (h0 := h0) W hD (Z_lg_le W) 12000 [] 0 px_F true h (7, 4, [], []) _ e Z_v.nil C h6 h9 kk (fun _ => kk) ⟨by show 7 ≤ 7; omega, by show 4 ≤ 4; omega, fun _ => ⟨e1, e2⟩, fun w => by change 7 < 7 at w; omega⟩ (by omega) (by omega)
  refine ⟨h', _, ?_, ?_, y2, y3⟩
  · have := K_fold (ov := Z_ov ev S D ab) (hx := K_hx ev S T D ab) K_hx_len (R_pl (Z_ok S T ab) 3 []) [] (7, 4, [], []) (Or.inl ⟨rfl, fun y hy => by cases hy⟩) (fun x hx => by cases hx) (R_pl_sorted 3 []) (fun y hy => (R_pl_mem.mp hy).2.2)
    rw [List.nil_append] at this
    exact this
  · rw [← nI_0]
    exact y1
end BACKC
