/-! Layer B: there and back: the reference, the call -/
def E_bm : Nat → Nat → Bool := fun a k => match a with
  | 51 => [15, 16, 17, 18, 19, 27, 30, 31, 32, 33, 41, 42, 43, 45, 46, 47, 50, 52].contains k
  | 64 => true
  | 65 => true
  | 68 => true
  | 70 => true
  | 71 => true
  | 72 => true
  | 73 => true
  | 74 => true
  | _ => false
theorem E_bm_sd : ∀ a k, E_bm a k = true → B_sd a k = true := fun a k e => by
  unfold E_bm at e
  split at e
  · have : k = 15 ∨ k = 16 ∨ k = 17 ∨ k = 18 ∨ k = 19 ∨ k = 27 ∨ k = 30 ∨ k = 31 ∨ k = 32 ∨ k = 33 ∨ k = 41 ∨ k = 42 ∨ k = 43 ∨ k = 45 ∨ k = 46 ∨ k = 47 ∨ k = 50 ∨ k = 52 := by simpa using e
    rcases this with rfl | rfl | rfl | rfl | rfl | rfl | rfl | rfl | rfl | rfl | rfl | rfl | rfl | rfl | rfl | rfl | rfl | rfl <;> rfl
  · rfl
  · rfl
  · rfl
  · rfl
  · rfl
  · rfl
  · rfl
  · rfl
  · cases e
/-- what a leaf writes: not the way -/
def E_bl : Nat → Nat → Bool := fun a k => match a with
  | 51 => [15, 16, 17, 18, 19, 27, 30, 31, 32, 33, 41, 42, 43, 45, 46, 47, 50].contains k
  | 64 => true
  | 65 => true
  | 68 => true
  | 70 => true
  | 71 => true
  | 72 => true
  | 74 => true
  | _ => false
theorem E_bl_bm : ∀ a k, E_bl a k = true → E_bm a k = true := fun a k e => by
  unfold E_bl at e
  split at e
  · have : k = 15 ∨ k = 16 ∨ k = 17 ∨ k = 18 ∨ k = 19 ∨ k = 27 ∨ k = 30 ∨ k = 31 ∨ k = 32 ∨ k = 33 ∨ k = 41 ∨ k = 42 ∨ k = 43 ∨ k = 45 ∨ k = 46 ∨ k = 47 ∨ k = 50 := by simpa using e
    rcases this with rfl | rfl | rfl | rfl | rfl | rfl | rfl | rfl | rfl | rfl | rfl | rfl | rfl | rfl | rfl | rfl | rfl <;> rfl
  · rfl
  · rfl
  · rfl
  · rfl
  · rfl
  · rfl
  · rfl
  · cases e
theorem E_z_bl : ∀ a k, E_z a k = true → E_bl a k = true := fun a k e => by
  unfold E_z at e
  split at e
  · exact e
  · rfl
  · rfl
  · rfl
  · rfl
  · rfl
  · rfl
  · cases e
theorem E_g_bl : ∀ a k, E_g 74 a k = true → E_bl a k = true := fun a k e => by
  unfold E_g at e
  split at e
  · have : k = 15 ∨ k = 16 ∨ k = 17 ∨ k = 18 ∨ k = 19 ∨ k = 27 ∨ k = 31 ∨ k = 32 ∨ k = 33 := by simpa using e
    rcases this with rfl | rfl | rfl | rfl | rfl | rfl | rfl | rfl | rfl <;> rfl
  · rfl
  · have := Nat.eq_of_beq_eq_true e
    subst this
    rfl
section MV
variable {Z : pH} {ev : pE} {ab x ab' : Int32} {T D : Nat}
theorem S_mv_ne {i : Nat} (hi : i ≠ 1) (k : Nat) : S_mv Z ab x i k = Z i k := by
  unfold S_mv
  rw [if_neg (fun w => hi w.1)]
theorem S_bu_mv (t L c : Nat) : S_bu ev (S_mv Z ab x) ab' t L c = S_bu ev Z ab' t L c := by
  funext k
  unfold S_bu S_ho S_P S_ab
  rw [S_mv_ne (show 0 ≠ 1 by decide), S_mv_ne (show 6 ≠ 1 by decide), S_mv_ne (show 5 ≠ 1 by decide), S_mv_ne (show 7 ≠ 1 by decide)]
theorem S_mv_w (Y : pH) (t : Nat) (v : Int32) : px_w (S_mv Y ab x) 4 t v = S_mv (px_w Y 4 t v) ab x := by
  funext i k
  show (if i = 4 ∧ k = t then v else (if i = 1 ∧ B_bit ab k = true then x else Y i k)) = (if i = 1 ∧ B_bit ab k = true then x else (if i = 4 ∧ k = t then v else Y i k))
  by_cases h : i = 4 ∧ k = t
  · rw [if_pos h, if_neg (fun w => by omega), if_pos h]
  · rw [if_neg h, if_neg h]
theorem S_go_mv : ∀ (n : Nat) (r : List Nat), r.length = n → S_go ev (S_mv Z ab x) D ab' r = ((S_go ev Z D ab' r).1, (S_go ev Z D ab' r).2.1, S_mv (S_go ev Z D ab' r).2.2 ab x) := by
  intro n
  induction n with
  | zero =>
    intro r h
    have : r = [] := List.length_eq_zero_iff.mp h
    subst this
    rfl
  | succ n ih =>
    intro r h
    rcases List.eq_nil_or_concat r with rfl | ⟨r0, t, rfl⟩
    · cases h
    · rw [List.concat_eq_append] at *
      rw [List.length_append, List.length_singleton] at h
      rw [S_go_app, S_go_app, ih r0 (by omega)]
      generalize S_go ev Z D ab' r0 = y
      obtain ⟨c, o, Y⟩ := y
      unfold S_st
      cases o with
      | some z => rfl
      | none =>
        have e4 : S_mv Y ab x 4 t = Y 4 t := S_mv_ne (by decide) t
        dsimp only
        simp only [e4, S_bu_mv, S_mv_w]
theorem Z_ok_mv : Z_ok (S_mv Z ab x) T ab' = Z_ok Z T ab' := by
  funext r t
  unfold Z_ok Z_us
  rw [S_mv_ne (show 6 ≠ 1 by decide), S_mv_ne (show 8 ≠ 1 by decide), S_mv_ne (show 4 ≠ 1 by decide)]
theorem Z_ov_mv : Z_ov ev (S_mv Z ab x) D ab' = Z_ov ev Z D ab' := by
  funext r
  unfold Z_ov
  rw [S_go_mv r.length r rfl]
  have : S_wds (S_mv Z ab x) r = S_wds Z r := by
    unfold S_wds
    congr 1
  rw [this]
end MV
section BACKM
variable {i : Nat} {h : pH} {P T K Y D lg p b f n m q hm : Nat} {S : pH} {ev : pE} {ab : Int32} {r : List Nat}
theorem S_dist_ne {Z : pH} (hZ : ∀ k, Z 10 k = S 10 k) (f b : Nat) : S_dist Z Y b f = S_dist S Y f b := by
  have : ∀ p, S_yd Z Y p = S_yd S Y p := fun p => by
    unfold S_yd
    rw [hZ]
  unfold S_dist
  rw [this, this]
  omega
/-- the way, as the reference keeps it -/
def M_wy (h : pH) (r : List Nat) : Prop := h 51 52 = nI r.length ∧ ∀ k, k < r.length → h 73 k = nI (r.getD k 0)
theorem mo_isFree_s (hp : p < P) (hab : ab = nI 1 <<< (nI p &&& 31)) (W : R_w P T K Y S) (A : R_a h 52 P T S) (Mw : M_wy h r) (hr : r.length ≤ 3) (hr2 : ∀ t, t ∈ r → t < T) {t : Nat} (ht : t < T) : mo_isFree (nI p) (nI t) h = some (B_01 (Z_ok S T ab r t), h) := by
  have h6 := W.1
  have h10 := W.2.1
  obtain ⟨ho1, ho2⟩ := B_lt_n (by omega) (W.2.2.2.2.2.2.2.2.2.1 t ht)
  have e38 : mo_isFree_38 h = some (0, h) := by
    unfold mo_isFree_38
    rw [bc_0, B_bz0]
  have hbit : B_bit ab (B_n (S 6 t)) = decide (B_n (S 6 t) = p) := by
    rw [hab, B_bit_sh (by omega) (by omega)]
  have H : ∀ j k n, k + j = r.length → j < n → mo_isFree_42 n (nI t) (nI k) h = some (B_01 (!((r.drop k).contains t)), h) := by
    intro j
    induction j with
    | zero =>
      intro k n hk hn
      obtain ⟨n, rfl⟩ : ∃ n', n = n' + 1 := ⟨n - 1, by omega⟩
      show (if h 51 52 ≤ nI k then _ else _) = _
      rw [Mw.1, if_pos (nI_le (by omega) (by omega)), bc_1, B_bz1, List.drop_eq_nil_of_le (by omega)]
      rfl
    | succ j ih =>
      intro k n hk hn
      obtain ⟨n, rfl⟩ : ∃ n', n = n' + 1 := ⟨n - 1, by omega⟩
      have hlt := hr2 _ (getD_memN (l := r) (k := k) (by omega))
      show (if h 51 52 ≤ nI k then _ else _) = _
      rw [Mw.1, if_neg (nI_ge (by omega) (by omega)), po_73 (by omega), B_ift, nI_clamp (by omega), Mw.2 k (by omega), drop_getD (show k < r.length by omega), List.contains_cons]
      by_cases c : r.getD k 0 = t
      · rw [if_pos (by rw [c]), bc_0, B_bz0]
        have : (t == r.getD k 0) = true := by rw [c]; exact beq_self_eq_true t
        rw [this]
        rfl
      · rw [if_neg (fun w => by rw [bn_eq (by omega) (by omega)] at w; exact c w), bc_1, nI_add]
        have : (t == r.getD k 0) = false := by
          rw [beq_eq_false_iff_ne]
          exact fun w => c w.symm
        rw [this, Bool.false_or]
        exact ih (k + 1) n (by omega) (by omega)
  have e42 := H r.length 0 px_F (by omega) (px_F_lt (by omega))
  rw [List.drop_zero, nI_0] at e42
  unfold mo_isFree
  rw [bc_32, nI_add, po_52 (by omega), B_ift, nI_clamp (by omega), A.2.2.2.2.1 t ht]
  unfold Z_ok Z_us
  rw [hbit, decide_eq_true ht, Bool.true_and]
  by_cases c1 : B_n (S 6 t) = p
  · have e1 : S 6 t = nI p := by rw [ho2, c1]
    rw [if_pos e1, bc_22, nI_add, po_52 (by omega), B_ift, nI_clamp (by omega), A.2.2.2.1 t ht, bc_1, decide_eq_true c1, Bool.true_and]
    rcases W.2.2.2.2.2.2.2.2.2.2.2.1 t ht with c2 | c2
    · rw [c2, if_neg (by decide), bc_12, nI_add, po_52 (by omega), B_ift, nI_clamp (by omega), A.2.2.1 t ht, decide_eq_true rfl, Bool.true_and]
      by_cases c3 : S 4 t = 0
      · rw [if_pos c3, e38, decide_eq_true c3]
        rfl
      · rw [if_neg c3, bc_0, e42, decide_eq_false c3]
        rfl
    · rw [c2, if_pos rfl, e38, decide_eq_false (by decide)]
      rfl
  · rw [if_neg (fun w => c1 (by rw [w, B_n_nI (by omega)])), e38, decide_eq_false c1]
    rfl
/-- a way is whole: what comes of it, and the way home -/
theorem mo_goBack_94_s {rc : pC} (hr3 : r.length ≤ 3) (hp : p < P) (hab : ab = nI 1 <<< (nI p &&& 31)) (ef : S 1 p = nI f) (hf : f < 2) (hb : b < 2) (hD : S_dist S Y f b = D) (hhm : hm ≤ 3) (W : R_w P T K Y S) (M : M_h h P T K Y S ev) (A : R_a h 52 P T S) (Mw : M_wy h r) (hv : Z_v S T ab r) : ∃ h', mo_goBack_94 rc px_F (nI p) (nI b) (nI r.length) (nI hm) 0 (px_w h 51 30 (nI r.length)) = some (B_01 (K_st (Z_ov ev S D ab) (K_hx ev S T D ab) hm r), h') ∧ B_fr E_bl h h' ∧ (K_st (Z_ov ev S D ab) (K_hx ev S T D ab) hm r = true → M_row h' ((K_hx ev S T D ab hm r).getD [])) := by
  have h6 := W.1
  have h10 := W.2.1
  have hr4 := hv.1
  have l1 := S_yd_le W (show f < 2 + K by omega)
  have l2 := S_yd_le W (show b < 2 + K by omega)
  have hD60 : D ≤ 60 := by rw [← hD]; unfold S_dist; omega
  have hw200 := Z_wds_le W r hv.lt
  have s52 : B_sl 52 := Or.inl rfl
  have s74 : B_sl 74 := Or.inr (Or.inr (Or.inr (Or.inl rfl)))
  -- behind the copy
  have HL : ∀ g, B_fr E_bl h g → M_row g r → ∃ h', (px_bind (mo_wordsIn 52 g) fun z1 h2 => px_if (px_ok 0 52 (nI p)) <| px_bind (mo_distance (h2 52 (nI p).toNatClampNeg) (nI b) h2) fun z3 h4 => if z3 ≤ z1 then px_bind (mo_lay 52 74 (px_c 0) h4) fun _ h6 => px_if (px_ok 0 52 (nI p)) <| px_bind (mo_goes 74 ((px_c 1) <<< (nI p &&& 31)) (h6 52 (nI p).toNatClampNeg) (nI b) h6) fun z7 h8 => if z7 = 0 then px_bz (px_c 0) h8 else px_if (px_ok 0 52 (nI p)) <| px_bind (mo_beginRows 74 ((px_c 1) <<< (nI p &&& 31)) (nI b) (h8 52 (nI p).toNatClampNeg) h8) fun _ h10 => px_bind (mo_goRows (nI hm) (px_c 0) h10) fun z11 h12 => px_bz z11 h12 else px_bz (px_c 0) h4) = some (B_01 (K_st (Z_ov ev S D ab) (K_hx ev S T D ab) hm r), h') ∧ B_fr E_bl h h' ∧ (K_st (Z_ov ev S D ab) (K_hx ev S T D ab) hm r = true → M_row h' ((K_hx ev S T D ab hm r).getD [])) := by
    intro g F Mr
    have Mg : M_h g P T K Y S ev := by
      obtain ⟨R, E⟩ := M
      refine ⟨?_, ?_⟩
      · unfold R_k at *
        rw [F 51 4 rfl, F 51 6 rfl, F 51 2 rfl, F 51 1 rfl, F.row 54 (fun _ => rfl), F.row 55 (fun _ => rfl), F.row 56 (fun _ => rfl), F.row 57 (fun _ => rfl), F.row 53 (fun _ => rfl)]
        exact R
      · rw [F 51 26 rfl, F.row 63 (fun _ => rfl)]
        exact E
    have Ag : R_a g 52 P T S := A.cell (F.row 52 (fun _ => rfl))
    rw [mo_wordsIn_s rfl rfl hv.r_in Mr Ag W, B_bind, po_52 (by omega), B_ift, nI_clamp (by omega), Ag.1 p hp, ef, mo_distance_s (show f < 2 + K by omega) (show b < 2 + K by omega) Mg.1 W, B_bind, hD]
    unfold K_st Z_ov
    by_cases c : D ≤ S_wds S r
    · rw [if_pos (nI_le c (by omega)), decide_eq_true c, Bool.true_and, mo_lay_t s52 s74 (by decide), B_bind, B_ift]
      have F1 : B_fr (E_g 74) g (B_cp g (g 52) 74 0) := B_cp_fr (fun _ => rfl)
      have F1l : B_fr E_bl h (B_cp g (g 52) 74 0) := F.trans (F1.mono E_g_bl)
      have e52 : (B_cp g (g 52) 74 0) 52 p = nI f := by rw [F1l 52 p rfl, A.1 p hp, ef]
      obtain ⟨h8, g1, g2, g3, g4, g5⟩ := mo_goes_s (ab := ab) (ev := ev) (r := r) s74 (show f < 2 + K by omega) hb W hv.r_in hv.2.1 (Z := S) rfl (by rw [hD]; exact c) (Mg.fr s74 F1) (B_cp_A Ag h6 h10 74) (Mr.fr s74 F1)
      rw [hD] at g1 g2 g3 g4
      have e01 : (if (S_go ev S D ab r).2.1 = none then nI 1 else 0) = B_01 (decide ((S_go ev S D ab r).2.1 = none)) := by
        rw [B_if01]
      rw [e01] at g1
      rw [e52, bc_1, ← hab, g1, B_bind]
      have F8 : B_fr E_bl h h8 := F1l.trans (g5.mono E_g_bl)
      cases hd : (S_go ev S D ab r).2.1 with
      | some s =>
        rw [decide_eq_false (show ¬ (some s : Option Nat) = none from fun w => by cases w), if_pos (show B_01 false = 0 from rfl), bc_0, B_bz0, Bool.false_and]
        exact ⟨h8, rfl, F8, fun w => by cases w⟩
      | none =>
        rw [decide_eq_true (show (none : Option Nat) = none from rfl), if_neg (show ¬ B_01 true = 0 by decide), Bool.true_and, B_ift]
        have efin : S_fin S Y K ab f b (S_go ev S D ab r) = S_mv (K_Z ev S D ab r) ab (nI b) := by
          unfold S_fin S_pl
          rw [hd]
          rfl
        rw [efin] at g2
        have WZ0 : R_w P T K Y (K_Z ev S D ab r) := foldl_W r (0, none, S) hv.lt W
        have WZ : R_w P T K Y (S_mv (K_Z ev S D ab r) ab (nI b)) := by
          rw [← efin]
          exact S_fin_W (show f < 2 + K by omega) hb WZ0
        have hZ4 : ∀ i k, i ≠ 1 → i ≠ 4 → S_mv (K_Z ev S D ab r) ab (nI b) i k = S i k := fun i k h1 h4 => by
          rw [S_mv_ne h1]
          exact foldl_ne r (0, none, S) i k (fun w => h4 w.1)
        have M8 : M_h h8 P T K Y (S_mv (K_Z ev S D ab r) ab (nI b)) ev := by
          obtain ⟨R, E⟩ := M
          obtain ⟨a1, a2, a3, a4, a5, a6, a7, a8, a9⟩ := R
          refine ⟨⟨?_, ?_, ?_, ?_, fun p hp => ?_, fun t ht => ?_, fun t ht => ?_, fun t ht => ?_, fun k hk => ?_⟩, ?_⟩
          · rw [F8 51 4 rfl]; exact a1
          · rw [F8 51 6 rfl]; exact a2
          · rw [F8 51 2 rfl]; exact a3
          · rw [F8 51 1 rfl]; exact a4
          · rw [F8 54 p rfl, hZ4 0 p (by decide) (by decide)]; exact a5 p hp
          · rw [F8 55 t rfl, hZ4 3 t (by decide) (by decide)]; exact a6 t ht
          · rw [F8 56 t rfl, hZ4 5 t (by decide) (by decide)]; exact a7 t ht
          · rw [F8 57 t rfl, hZ4 7 t (by decide) (by decide)]; exact a8 t ht
          · rw [F8 53 k rfl, hZ4 10 k (by decide) (by decide)]; exact a9 k hk
          · rw [F8 51 26 rfl, F8.row 63 (fun _ => rfl)]
            exact E
        have e52' : h8 52 p = nI f := by rw [F8 52 p rfl, A.1 p hp, ef]
        obtain ⟨h9, b1, b2, -, -, -, -, b3⟩ := mo_beginRows_s (ab := ab) (p := b) (b := f) s74 (by decide) WZ M8 g2
        obtain ⟨h11, c1, c2, c3⟩ := mo_first_s (many := hm) (by omega) (show b < 2 + K by omega) hf WZ b2
        have ed : S_dist (S_mv (K_Z ev S D ab r) ab (nI b)) Y b f = D := by
          exact (S_dist_ne (fun k => hZ4 10 k (by decide) (by decide)) f b).trans hD
        rw [ed, Z_ok_mv, Z_ov_mv] at c1 c3
        have e52b : (nI p).toNatClampNeg = p := nI_clamp (by omega)
        rw [e52', b1, B_bind, bc_0, c1, B_bind, B_01_bz]
        exact ⟨h11, rfl, F8.trans ((b3.mono (fun a k e => E_z_bl a k (E_b_z a k e))).trans (c2.mono (fun a k e => E_z_bl a k (E_q_z a k e)))), fun _ => c3⟩
    · rw [if_neg (nI_ge (by omega) (by omega)), bc_0, B_bz0, decide_eq_false c, Bool.false_and, Bool.false_and]
      exact ⟨g, rfl, F, fun w => by cases w⟩
  have H : ∀ (j k n : Nat) (g : pH), k + j = r.length → j < n → g 51 30 = nI r.length → (∀ i, i < k → g 65 i = nI (r.getD i 0)) → B_fr E_bl h g → ∃ h', mo_goBack_94 rc n (nI p) (nI b) (nI r.length) (nI hm) (nI k) g = some (B_01 (K_st (Z_ov ev S D ab) (K_hx ev S T D ab) hm r), h') ∧ B_fr E_bl h h' ∧ (K_st (Z_ov ev S D ab) (K_hx ev S T D ab) hm r = true → M_row h' ((K_hx ev S T D ab hm r).getD [])) := by
    intro j
    induction j with
    | zero =>
      intro k n g hk hn e30 e65 F
      obtain ⟨n, rfl⟩ : ∃ n', n = n' + 1 := ⟨n - 1, by omega⟩
      obtain ⟨h', x1, x2⟩ := HL g F ⟨e30, by omega, fun i hi => e65 i (by omega)⟩
      refine ⟨h', ?_, x2⟩
      rw [← x1]
      show (if nI r.length ≤ nI k then _ else _) = _
      rw [if_pos (nI_le (by omega) (by omega))]
    | succ j ih =>
      intro k n g hk hn e30 e65 F
      obtain ⟨n, rfl⟩ : ∃ n', n = n' + 1 := ⟨n - 1, by omega⟩
      obtain ⟨h', x1, x2⟩ := ih (k + 1) n (px_w g 65 k (nI (r.getD k 0))) (by omega) (by omega) (by rw [B_w_cell _ _ _ (show (51 : Nat) ≠ 65 by decide)]; exact e30) (fun i hi => by
        rw [B_w_at]
        by_cases w : i = k
        · rw [if_pos w, w]
        · rw [if_neg w]
          exact e65 i (by omega)) (F.w rfl)
      refine ⟨h', ?_, x2⟩
      show (if nI r.length ≤ nI k then _ else _) = _
      rw [if_neg (nI_ge (by omega) (by omega)), po_73 (by omega), B_ift, po_65 (by omega), B_ift, nI_clamp (by omega), F 73 k rfl, Mw.2 k (by omega), bc_1, nI_add]
      exact x1
  have := H r.length 0 px_F (px_w h 51 30 (nI r.length)) (by omega) (px_F_lt (by omega)) (B_w_same _ _ _ _) (fun i hi => by omega) ((B_fr.refl _ _).w rfl)
  rw [nI_0] at this
  exact this
theorem mo_goBack_s (hp : p < P) (hab : ab = nI 1 <<< (nI p &&& 31)) (ef : S 1 p = nI f) (hf : f < 2) (hb : b < 2) (hD : S_dist S Y f b = D) (hhm : hm ≤ 3) {many : Nat} (hmany : many ≤ 3) (W : R_w P T K Y S) : ∀ (n g : Nat) (r : List Nat) (h : pH), r.length + n = many → n ≤ g → Z_v S T ab r → M_h h P T K Y S ev → R_a h 52 P T S → M_wy h r → ∃ h', mo_goBack (mo_goBackG g) (nI p) (nI b) (nI many) (nI hm) h = some (B_01 (F_x (Z_ok S T ab) (K_st (Z_ov ev S D ab) (K_hx ev S T D ab) hm) n r).isSome, h') ∧ B_fr E_bm h h' ∧ M_wy h' ((F_x (Z_ok S T ab) (K_st (Z_ov ev S D ab) (K_hx ev S T D ab) hm) n r).getD r) ∧ ∀ x, F_x (Z_ok S T ab) (K_st (Z_ov ev S D ab) (K_hx ev S T D ab) hm) n r = some x → M_row h' ((K_hx ev S T D ab hm x).getD []) := by
  have h10 := W.2.1
  intro n
  induction n with
  | zero =>
    intro g r h hr hg hv M A Mw
    have el : r.length = many := by omega
    obtain ⟨h', x1, x2, x3⟩ := mo_goBack_94_s (rc := mo_goBackG g) (by omega) hp hab ef hf hb hD hhm W M A Mw hv
    have e : mo_goBack (mo_goBackG g) (nI p) (nI b) (nI many) (nI hm) h = some (B_01 (K_st (Z_ov ev S D ab) (K_hx ev S T D ab) hm r), h') := by
      rw [← x1]
      unfold mo_goBack
      rw [Mw.1, ← el, if_pos (nI_le (by omega) (by omega)), bc_0]
    have Mw' : M_wy h' r := ⟨by rw [x2 51 52 rfl]; exact Mw.1, fun k hk => by rw [x2 73 k rfl]; exact Mw.2 k hk⟩
    refine ⟨h', ?_, x2.mono E_bl_bm, ?_, fun x hx => ?_⟩
    · rw [e]
      unfold F_x
      cases K_st (Z_ov ev S D ab) (K_hx ev S T D ab) hm r <;> rfl
    · unfold F_x
      cases K_st (Z_ov ev S D ab) (K_hx ev S T D ab) hm r <;> exact Mw'
    · unfold F_x at hx
      by_cases c : K_st (Z_ov ev S D ab) (K_hx ev S T D ab) hm r = true
      · rw [if_pos c] at hx
        cases hx
        exact x3 c
      · rw [if_neg c] at hx
        cases hx
  | succ n ih =>
    intro g r h hr hg hv M A Mw
    obtain ⟨g, rfl⟩ : ∃ g', g = g' + 1 := ⟨g - 1, by omega⟩
    have H : ∀ (m t n' : Nat) (h : pH), t + m = T → m < n' → M_h h P T K Y S ev → R_a h 52 P T S → M_wy h r → ∃ h', mo_goBack_11 (mo_goBackG (g + 1)) n' (nI p) (nI b) (nI many) (nI hm) (nI t) h = some (B_01 (L_fst (fun t => if Z_ok S T ab r t = true then F_x (Z_ok S T ab) (K_st (Z_ov ev S D ab) (K_hx ev S T D ab) hm) n (r ++ [t]) else none) t m).isSome, h') ∧ B_fr E_bm h h' ∧ M_wy h' ((L_fst (fun t => if Z_ok S T ab r t = true then F_x (Z_ok S T ab) (K_st (Z_ov ev S D ab) (K_hx ev S T D ab) hm) n (r ++ [t]) else none) t m).getD r) ∧ ∀ x, L_fst (fun t => if Z_ok S T ab r t = true then F_x (Z_ok S T ab) (K_st (Z_ov ev S D ab) (K_hx ev S T D ab) hm) n (r ++ [t]) else none) t m = some x → M_row h' ((K_hx ev S T D ab hm x).getD []) := by
      intro m
      induction m with
      | zero =>
        intro t n' h ht hn M A Mw
        obtain ⟨n', rfl⟩ : ∃ n2, n' = n2 + 1 := ⟨n' - 1, by omega⟩
        have mT := M.1.2.1
        refine ⟨h, ?_, B_fr.refl _ _, Mw, fun x hx => by cases hx⟩
        show (if h 51 6 ≤ nI t then _ else _) = _
        rw [mT, if_pos (nI_le (by omega) (by omega)), bc_0, B_bz0]
        rfl
      | succ m im =>
        intro t n' h ht hn M A Mw
        obtain ⟨n', rfl⟩ : ∃ n2, n' = n2 + 1 := ⟨n' - 1, by omega⟩
        have mT := M.1.2.1
        have e78 : ∀ g', mo_goBack_78 (mo_goBackG (g + 1)) (mo_goBack_11 (mo_goBackG (g + 1)) n') (nI p) (nI b) (nI many) (nI hm) (nI t) g' = mo_goBack_11 (mo_goBackG (g + 1)) n' (nI p) (nI b) (nI many) (nI hm) (nI (t + 1)) g' := fun g' => by
          unfold mo_goBack_78
          rw [bc_1, nI_add]
        have hstep : mo_goBack_11 (mo_goBackG (g + 1)) (n' + 1) (nI p) (nI b) (nI many) (nI hm) (nI t) h = if B_01 (Z_ok S T ab r t) = 0 then mo_goBack_11 (mo_goBackG (g + 1)) n' (nI p) (nI b) (nI many) (nI hm) (nI (t + 1)) h else mo_goBack_54 (mo_goBackG (g + 1)) (mo_goBack_11 (mo_goBackG (g + 1)) n') (nI p) (nI b) (nI many) (nI hm) (nI t) (px_w (px_w h 73 r.length (nI t)) 51 52 (nI (r.length + 1))) := by
          show (if h 51 6 ≤ nI t then _ else _) = _
          rw [mT, if_neg (nI_ge (by omega) (by omega)), mo_isFree_s hp hab W A Mw (by omega) hv.lt (show t < T by omega), B_bind, e78]
          by_cases c : B_01 (Z_ok S T ab r t) = 0
          · rw [if_pos c, if_pos c]
          · rw [if_neg c, if_neg c, Mw.1, po_73 (by omega), B_ift, nI_clamp (by omega)]
            dsimp only
            rw [B_w_cell _ _ _ (show (51 : Nat) ≠ 73 by decide), Mw.1, bc_1, nI_add]
        rw [hstep]
        unfold L_fst
        cases hk : Z_ok S T ab r t with
        | false =>
          rw [if_pos (show B_01 false = 0 from rfl), if_neg (by decide)]
          exact im (t + 1) n' h (by omega) (by omega) M A Mw
        | true =>
          rw [if_neg (show ¬ B_01 true = 0 by decide), if_pos rfl]
          have l1 : (r ++ [t]).length = r.length + 1 := by rw [List.length_append, List.length_singleton]
          have F1 : B_fr E_bm h (px_w (px_w h 73 r.length (nI t)) 51 52 (nI (r.length + 1))) := ((B_fr.refl _ _).w rfl).w rfl
          have hM : ∀ g', B_fr E_bm h g' → M_h g' P T K Y S ev ∧ R_a g' 52 P T S := fun g' F => by
            obtain ⟨R, E⟩ := M
            refine ⟨⟨?_, ?_⟩, A.cell (F.row 52 (fun _ => rfl))⟩
            · unfold R_k at *
              rw [F 51 4 rfl, F 51 6 rfl, F 51 2 rfl, F 51 1 rfl, F.row 54 (fun _ => rfl), F.row 55 (fun _ => rfl), F.row 56 (fun _ => rfl), F.row 57 (fun _ => rfl), F.row 53 (fun _ => rfl)]
              exact R
            · rw [F 51 26 rfl, F.row 63 (fun _ => rfl)]
              exact E
          have Mw1 : M_wy (px_w (px_w h 73 r.length (nI t)) 51 52 (nI (r.length + 1))) (r ++ [t]) := by
            refine ⟨by rw [B_w_same, l1], fun k hk => ?_⟩
            rw [l1] at hk
            rw [B_w_cell _ _ _ (show (73 : Nat) ≠ 51 by decide), B_w_at]
            by_cases w : k = r.length
            · subst w
              rw [if_pos rfl, Z_getD_last]
            · rw [if_neg w, Z_getD_pre r t (by omega)]
              exact Mw.2 k (by omega)
          obtain ⟨h2, y1, y2, y3, y4⟩ := ih g (r ++ [t]) _ (by omega) (by omega) (hv.app (by omega) hk) (hM _ F1).1 (hM _ F1).2 Mw1
          have e257 : mo_goBackG (g + 1) 257 [.inr (.inl 51), .inl (nI p), .inl (nI b), .inl (nI many), .inl (nI hm)] (px_w (px_w h 73 r.length (nI t)) 51 52 (nI (r.length + 1))) = mo_goBack (mo_goBackG g) (nI p) (nI b) (nI many) (nI hm) (px_w (px_w h 73 r.length (nI t)) 51 52 (nI (r.length + 1))) := rfl
          unfold mo_goBack_54
          rw [e257, y1, B_bind]
          have F2 := F1.trans y2
          cases he : F_x (Z_ok S T ab) (K_st (Z_ov ev S D ab) (K_hx ev S T D ab) hm) n (r ++ [t]) with
          | some x =>
            rw [he] at y3
            refine ⟨h2, ?_, F2, y3, fun x' hx' => ?_⟩
            · rw [if_neg (show ¬ B_01 (some x).isSome = 0 from (by decide : ¬ B_01 true = 0)), bc_1, B_bz1]
              rfl
            · cases hx'
              exact y4 x he
          | none =>
            rw [he] at y3
            have y3' : M_wy h2 (r ++ [t]) := y3
            have e1 : h2 51 52 - px_c 1 = nI r.length := by
              rw [y3'.1, bc_1, l1, pk_sub (by omega)]
              rfl
            rw [if_pos (show B_01 (none : Option (List Nat)).isSome = 0 from rfl)]
            dsimp only
            rw [e1, e78]
            have F3 : B_fr E_bm h (px_w h2 51 52 (nI r.length)) := F2.w rfl
            have Mw3 : M_wy (px_w h2 51 52 (nI r.length)) r := ⟨B_w_same _ _ _ _, fun k hk => by
              rw [B_w_cell _ _ _ (show (73 : Nat) ≠ 51 by decide), y3'.2 k (by omega), Z_getD_pre r t hk]⟩
            obtain ⟨h', z1, z2, z3, z4⟩ := im (t + 1) n' _ (by omega) (by omega) (hM _ F3).1 (hM _ F3).2 Mw3
            exact ⟨h', z1, F3.trans z2, z3, z4⟩
    obtain ⟨h', x1, x2, x3, x4⟩ := H T 0 px_F h (by omega) (px_F_lt (by omega)) M A Mw
    have eT : F_x (Z_ok S T ab) (K_st (Z_ov ev S D ab) (K_hx ev S T D ab) hm) (n + 1) r = L_fst (fun t => if Z_ok S T ab r t = true then F_x (Z_ok S T ab) (K_st (Z_ov ev S D ab) (K_hx ev S T D ab) hm) n (r ++ [t]) else none) 0 T := by
      show L_fst _ 0 10 = _
      rw [L_fst_find, L_fst_find, show (10 : Nat) = T + (10 - T) by omega, ← List.range'_append_1, List.findSome?_append]
      have : (List.range' (0 + T) (10 - T)).findSome? (fun t => if Z_ok S T ab r t = true then F_x (Z_ok S T ab) (K_st (Z_ov ev S D ab) (K_hx ev S T D ab) hm) n (r ++ [t]) else none) = none := by
        rw [List.findSome?_eq_none_iff]
        intro t ht
        rw [List.mem_range'_1] at ht
        refine if_neg (fun w => ?_)
        have := Z_us_lt (Z_ok_iff.mp w).1
        omega
      rw [this, Option.or_none]
    rw [eT]
    refine ⟨h', ?_, x2, x3, x4⟩
    unfold mo_goBack
    rw [Mw.1, if_neg (nI_ge (by omega) (by omega)), bc_0]
    rw [nI_0] at x1
    exact x1
theorem bk_in : ∀ a, a < 7 → ∀ m, m < 4 → decide ((nI 1).toInt ≤ (nI a - nI m).toInt ∧ (nI a - nI m).toInt ≤ (nI 3).toInt) = decide (m + 1 ≤ a ∧ a ≤ m + 3) ∧ (m ≤ a → nI a - nI m = nI (a - m)) := by decide +kernel
/-- the two rows told -/
theorem mo_back_86_s {all many : Nat} {s : List Nat} (h1 : r.length = many) (hm3 : many ≤ 3) (h2 : s.length = all - many) (ha : all ≤ 6) (hma : many ≤ all) (e73 : ∀ k, k < r.length → h 73 k = nI (r.getD k 0)) (e65 : ∀ k, k < s.length → h 65 k = nI (s.getD k 0)) : ∃ h', mo_back_86 (nI all) (nI many) (px_w h 51 13 0) = some (nI all, h') ∧ B_rm h' (nI many :: (r.map nI ++ s.map nI)) ∧ B_fr B_frm h h' := by
  have F0 : B_fr B_frm h (px_w h 51 13 0) := (B_fr.refl _ _).w rfl
  obtain ⟨g1, a1, a2, a3⟩ := mo_tell_s (nI many) (B_rm_nil h) (by show 0 < 10; omega)
  have F1 := F0.trans a3
  have esub : nI all - nI many = nI s.length := by rw [pk_sub hma, h2]
  have H2 : ∀ (j k n : Nat) (g : pH), k + j = s.length → j < n → B_fr B_frm h g → B_rm g (nI many :: (r.map nI ++ (s.take k).map nI)) → ∃ h', mo_back_122 n (nI all) (nI many) (nI k) g = some (nI all, h') ∧ B_rm h' (nI many :: (r.map nI ++ s.map nI)) ∧ B_fr B_frm h h' := by
    intro j
    induction j with
    | zero =>
      intro k n g hk hn F R
      obtain ⟨n, rfl⟩ : ∃ n', n = n' + 1 := ⟨n - 1, by omega⟩
      rw [List.take_of_length_le (by omega)] at R
      refine ⟨g, ?_, R, F⟩
      show (if nI all - nI many ≤ nI k then _ else _) = _
      rw [esub, if_pos (nI_le (by omega) (by omega))]
    | succ j ih =>
      intro k n g hk hn F R
      obtain ⟨n, rfl⟩ : ∃ n', n = n' + 1 := ⟨n - 1, by omega⟩
      obtain ⟨g2, b1, b2, b3⟩ := mo_tell_s (nI (s.getD k 0)) R (by rw [List.length_cons, List.length_append, List.length_map, List.length_map, List.length_take]; omega)
      rw [List.cons_append, List.append_assoc, ← Z_map_snoc (by omega)] at b2
      obtain ⟨h', x1, x2⟩ := ih (k + 1) n g2 (by omega) (by omega) (F.trans b3) b2
      refine ⟨h', ?_, x2⟩
      show (if nI all - nI many ≤ nI k then _ else _) = _
      rw [esub, if_neg (nI_ge (by omega) (by omega)), po_65 (by omega), B_ift, nI_clamp (by omega), F 65 k rfl, e65 k (by omega), b1, B_bind, bc_1, nI_add]
      exact x1
  have H1 : ∀ (j k n : Nat) (g : pH), k + j = r.length → j < n → B_fr B_frm h g → B_rm g (nI many :: (r.take k).map nI) → ∃ h', mo_back_95 n (nI all) (nI many) (nI k) g = some (nI all, h') ∧ B_rm h' (nI many :: (r.map nI ++ s.map nI)) ∧ B_fr B_frm h h' := by
    intro j
    induction j with
    | zero =>
      intro k n g hk hn F R
      obtain ⟨n, rfl⟩ : ∃ n', n = n' + 1 := ⟨n - 1, by omega⟩
      rw [List.take_of_length_le (by omega)] at R
      obtain ⟨h', x1, x2⟩ := H2 s.length 0 px_F g (by omega) (px_F_lt (by omega)) F (by rw [List.take_zero, List.map_nil, List.append_nil]; exact R)
      refine ⟨h', ?_, x2⟩
      show (if nI many ≤ nI k then _ else _) = _
      rw [if_pos (nI_le (by omega) (by omega)), bc_0]
      rw [nI_0] at x1
      exact x1
    | succ j ih =>
      intro k n g hk hn F R
      obtain ⟨n, rfl⟩ : ∃ n', n = n' + 1 := ⟨n - 1, by omega⟩
      obtain ⟨g2, b1, b2, b3⟩ := mo_tell_s (nI (r.getD k 0)) R (by rw [List.length_cons, List.length_map, List.length_take]; omega)
      rw [List.cons_append, ← Z_map_snoc (by omega)] at b2
      obtain ⟨h', x1, x2⟩ := ih (k + 1) n g2 (by omega) (by omega) (F.trans b3) b2
      refine ⟨h', ?_, x2⟩
      show (if nI many ≤ nI k then _ else _) = _
      rw [if_neg (nI_ge (by omega) (by omega)), po_73 (by omega), B_ift, nI_clamp (by omega), F 73 k rfl, e73 k (by omega), b1, B_bind, bc_1, nI_add]
      exact x1
  obtain ⟨h', x1, x2⟩ := H1 r.length 0 px_F g1 (by omega) (px_F_lt (by omega)) F1 (by rw [List.take_zero]; exact a2)
  refine ⟨h', ?_, x2⟩
  unfold mo_back_86
  rw [a1, B_bind, bc_0]
  rw [nI_0] at x1
  exact x1
theorem mo_back_s (hp : p < P) (hab : ab = nI 1 <<< (nI p &&& 31)) (ef : S 1 p = nI f) (hf : f < 2) (hb : b < 2) (hD : S_dist S Y f b = D) (W : R_w P T K Y S) (M : M_h h P T K Y S ev) (A : R_a h 52 P T S) : ∃ h', B_fr B_sd h h' ∧ match K_ref (Z_ok S T ab) (Z_ov ev S D ab) (K_hx ev S T D ab) with
    | none => mo_back_28 px_F (nI p) (nI b) (nI 2) h = some (-2, h') ∧ h' 51 13 = h 51 13 ∧ h' 59 = h 59
    | some (all, many, r) => ∀ s, K_hx ev S T D ab (all - many) r = some s → r.length = many → s.length = all - many → all ≤ 6 → many ≤ all → mo_back_28 px_F (nI p) (nI b) (nI 2) h = some (nI all, h') ∧ B_rm h' (nI many :: (r.map nI ++ s.map nI)) := by
  have hM : ∀ g, B_fr E_bm h g → M_h g P T K Y S ev ∧ R_a g 52 P T S := fun g F => by
    obtain ⟨R, E⟩ := M
    refine ⟨⟨?_, ?_⟩, A.cell (F.row 52 (fun _ => rfl))⟩
    · unfold R_k at *
      rw [F 51 4 rfl, F 51 6 rfl, F 51 2 rfl, F 51 1 rfl, F.row 54 (fun _ => rfl), F.row 55 (fun _ => rfl), F.row 56 (fun _ => rfl), F.row 57 (fun _ => rfl), F.row 53 (fun _ => rfl)]
      exact R
    · rw [F 51 26 rfl, F.row 63 (fun _ => rfl)]
      exact E
  -- by how many there
  have H1 : ∀ (r28 : Int32 → Int32 → Int32 → pH → pR) (all j k n : Nat) (g : pH), all ≤ 6 → k + j = 3 → j < n → B_fr E_bm h g → ∃ h', (match L_fst (fun m => (K_r (Z_ok S T ab) (Z_ov ev S D ab) (K_hx ev S T D ab) all (m + 1)).map (fun r => (all, m + 1, r))) k j with
      | none => mo_back_37 r28 n (nI p) (nI b) (nI all) (nI (k + 1)) g = r28 (nI p) (nI b) (nI (all + 1)) h' ∧ B_fr E_bm h h'
      | some (a2, many, r) => B_fr B_sd h h' ∧ ∀ s, K_hx ev S T D ab (a2 - many) r = some s → r.length = many → s.length = a2 - many → many ≤ a2 → mo_back_37 r28 n (nI p) (nI b) (nI all) (nI (k + 1)) g = some (nI a2, h') ∧ B_rm h' (nI many :: (r.map nI ++ s.map nI))) := by
    intro r28 all j
    induction j with
    | zero =>
      intro k n g hall hk hn F
      obtain ⟨n, rfl⟩ : ∃ n', n = n' + 1 := ⟨n - 1, by omega⟩
      refine ⟨g, ?_, F⟩
      show (if px_c 3 < nI (k + 1) then _ else _) = _
      rw [bc_3, if_pos (by rw [bn_lt (by omega) (by omega)]; omega), bc_1, nI_add]
    | succ j ih =>
      intro k n g hall hk hn F
      obtain ⟨n, rfl⟩ : ∃ n', n = n' + 1 := ⟨n - 1, by omega⟩
      have hin := bk_in all (by omega) (k + 1) (by omega)
      have e150 : ∀ g', mo_back_150 r28 (mo_back_37 r28 n) (nI p) (nI b) (nI all) (nI (k + 1)) g' = mo_back_37 r28 n (nI p) (nI b) (nI all) (nI (k + 1 + 1)) g' := fun g' => by
        unfold mo_back_150
        rw [bc_1, nI_add]
      have hz : mo_back_37 r28 (n + 1) (nI p) (nI b) (nI all) (nI (k + 1)) g = if B_01 (decide (k + 1 + 1 ≤ all ∧ all ≤ k + 1 + 3)) = 0 then mo_back_37 r28 n (nI p) (nI b) (nI all) (nI (k + 1 + 1)) g else px_bind (mo_goBackT (nI p) (nI b) (nI (k + 1)) (nI all - nI (k + 1)) (px_w g 51 52 0)) fun z4 h5 => if z4 = 0 then mo_back_37 r28 n (nI p) (nI b) (nI all) (nI (k + 1 + 1)) h5 else mo_back_86 (nI all) (nI (k + 1)) (px_w h5 51 13 0) := by
        show (if px_c 3 < nI (k + 1) then _ else _) = _
        rw [bc_3, if_neg (fun w => by rw [bn_lt (by omega) (by omega)] at w; omega), mo_in_eq, bc_1, hin.1, B_bind, e150, bc_0]
        simp only [e150]
      rw [hz]
      unfold L_fst K_r
      by_cases c : k + 1 + 1 ≤ all ∧ all ≤ k + 1 + 3
      · rw [decide_eq_true c, if_neg (show ¬ B_01 true = 0 by decide), if_pos c, hin.2 (by omega)]
        have F1 : B_fr E_bm h (px_w g 51 52 0) := F.w rfl
        obtain ⟨h5, y1, y2, y3, y4⟩ := mo_goBack_s (ev := ev) (h := px_w g 51 52 0) hp hab ef hf hb hD (hm := all - (k + 1)) (by omega) (many := k + 1) (by omega) W (k + 1) 9 [] (by show 0 + (k + 1) = k + 1; omega) (by omega) Z_v.nil (hM _ F1).1 (hM _ F1).2 ⟨by rw [B_w_same]; exact nI_0.symm, fun k hk => by simp at hk⟩
        have eT : mo_goBackT (nI p) (nI b) (nI (k + 1)) (nI (all - (k + 1))) (px_w g 51 52 0) = mo_goBack (mo_goBackG 9) (nI p) (nI b) (nI (k + 1)) (nI (all - (k + 1))) (px_w g 51 52 0) := by
          unfold mo_goBackT
          rw [px_n10_eq]
          rfl
        rw [eT, y1, B_bind]
        have F5 := F1.trans y2
        cases he : F_x (Z_ok S T ab) (K_st (Z_ov ev S D ab) (K_hx ev S T D ab) (all - (k + 1))) (k + 1) [] with
        | none =>
          rw [if_pos (show B_01 (none : Option (List Nat)).isSome = 0 from rfl)]
          exact ih (k + 1) n h5 hall (by omega) (by omega) F5
        | some r =>
          rw [he] at y3
          rw [if_neg (show ¬ B_01 (some r).isSome = 0 from (by decide : ¬ B_01 true = 0))]
          have ex : ∃ h', ∀ s, K_hx ev S T D ab (all - (k + 1)) r = some s → r.length = k + 1 → s.length = all - (k + 1) → k + 1 ≤ all → mo_back_86 (nI all) (nI (k + 1)) (px_w h5 51 13 0) = some (nI all, h') ∧ B_rm h' (nI (k + 1) :: (r.map nI ++ s.map nI)) ∧ B_fr B_frm h5 h' := by
            cases hs : K_hx ev S T D ab (all - (k + 1)) r with
            | none => exact ⟨h5, fun s w => by cases w⟩
            | some s =>
              have y5 := y4 r he
              rw [hs] at y5
              by_cases l1 : r.length = k + 1 ∧ s.length = all - (k + 1)
              · obtain ⟨h', w1, w2, w3⟩ := mo_back_86_s (h := h5) (r := r) (s := s) l1.1 (by omega) l1.2 hall (by omega) y3.2 y5.2.2
                exact ⟨h', fun s' w _ _ _ => by cases w; exact ⟨w1, w2, w3⟩⟩
              · exact ⟨h5, fun s' w q1 q2 _ => by cases w; exact absurd ⟨q1, q2⟩ l1⟩
          obtain ⟨h', hh⟩ := ex
          by_cases q : ∃ s, K_hx ev S T D ab (all - (k + 1)) r = some s ∧ r.length = k + 1 ∧ s.length = all - (k + 1) ∧ k + 1 ≤ all
          · obtain ⟨s, q1, q2, q3, q4⟩ := q
            obtain ⟨w1, w2, w3⟩ := hh s q1 q2 q3 q4
            exact ⟨h', (F5.mono E_bm_sd).trans (w3.mono B_frm_sd), fun s' a1 a2 a3 a4 => ⟨(hh s' a1 a2 a3 a4).1, (hh s' a1 a2 a3 a4).2.1⟩⟩
          · exact ⟨h5, F5.mono E_bm_sd, fun s' a1 a2 a3 a4 => absurd ⟨s', a1, a2, a3, a4⟩ q⟩
      · rw [decide_eq_false c, if_pos (show B_01 false = 0 from rfl), if_neg c]
        exact ih (k + 1) n g hall (by omega) (by omega) F
  -- by how many in all
  have H0 : ∀ (j k n : Nat) (g : pH), k + j = 5 → j < n → B_fr E_bm h g → ∃ h', (match L_fst (fun a => K_rr (Z_ok S T ab) (Z_ov ev S D ab) (K_hx ev S T D ab) (a + 2)) k j with
      | none => mo_back_28 n (nI p) (nI b) (nI (k + 2)) g = some (-2, h') ∧ B_fr E_bm h h'
      | some (a2, many, r) => B_fr B_sd h h' ∧ ∀ s, K_hx ev S T D ab (a2 - many) r = some s → r.length = many → s.length = a2 - many → many ≤ a2 → mo_back_28 n (nI p) (nI b) (nI (k + 2)) g = some (nI a2, h') ∧ B_rm h' (nI many :: (r.map nI ++ s.map nI))) := by
    intro j
    induction j with
    | zero =>
      intro k n g hk hn F
      obtain ⟨n, rfl⟩ : ∃ n', n = n' + 1 := ⟨n - 1, by omega⟩
      refine ⟨g, ?_, F⟩
      show (if px_c 6 < nI (k + 2) then _ else _) = _
      rw [bc_6, if_pos (by rw [bn_lt (by omega) (by omega)]; omega), bc_m2]
    | succ j ih =>
      intro k n g hk hn F
      obtain ⟨n, rfl⟩ : ∃ n', n = n' + 1 := ⟨n - 1, by omega⟩
      have hz : mo_back_28 (n + 1) (nI p) (nI b) (nI (k + 2)) g = mo_back_37 (mo_back_28 n) px_F (nI p) (nI b) (nI (k + 2)) (nI (0 + 1)) g := by
        show (if px_c 6 < nI (k + 2) then _ else _) = _
        rw [bc_6, if_neg (fun w => by rw [bn_lt (by omega) (by omega)] at w; omega), bc_1]
      obtain ⟨h', o⟩ := H1 (mo_back_28 n) (k + 2) 3 0 px_F g (by omega) rfl (px_F_lt (by omega)) F
      rw [hz]
      unfold L_fst
      have erk : K_rr (Z_ok S T ab) (Z_ov ev S D ab) (K_hx ev S T D ab) (k + 2) = L_fst (fun m => (K_r (Z_ok S T ab) (Z_ov ev S D ab) (K_hx ev S T D ab) (k + 2) (m + 1)).map (fun r => (k + 2, m + 1, r))) 0 3 := rfl
      rw [erk]
      cases w : L_fst (fun m => (K_r (Z_ok S T ab) (Z_ov ev S D ab) (K_hx ev S T D ab) (k + 2) (m + 1)).map (fun r => (k + 2, m + 1, r))) 0 3 with
      | some x =>
        obtain ⟨a2, many, r⟩ := x
        rw [w] at o
        exact ⟨h', o⟩
      | none =>
        rw [w] at o
        obtain ⟨o1, o2⟩ := o
        rw [o1]
        exact ih (k + 1) n h' (by omega) (by omega) o2
  obtain ⟨h', o⟩ := H0 5 0 px_F h rfl (px_F_lt (by omega)) (B_fr.refl _ _)
  have erf : K_ref (Z_ok S T ab) (Z_ov ev S D ab) (K_hx ev S T D ab) = L_fst (fun a => K_rr (Z_ok S T ab) (Z_ov ev S D ab) (K_hx ev S T D ab) (a + 2)) 0 5 := rfl
  rw [erf]
  refine ⟨h', ?_⟩
  cases w : L_fst (fun a => K_rr (Z_ok S T ab) (Z_ov ev S D ab) (K_hx ev S T D ab) (a + 2)) 0 5 with
  | none =>
    rw [w] at o
    exact ⟨o.2.mono E_bm_sd, o.1, o.2 51 13 rfl, o.2.row 59 (fun _ => rfl)⟩
  | some x =>
    obtain ⟨a2, many, r⟩ := x
    rw [w] at o
    exact ⟨o.1, fun s a1 a2 a3 _ a5 => o.2 s a1 a2 a3 a5⟩
theorem B_back (hI : Inv i h) (v0 v1 : Int32) : ∃ r h1 h2, wu_back v0 v1 h = some (r, h1) ∧ mo_back v0 v1 h1 = some (r, h2) ∧ Inv (i + 5) h2 := by
  obtain ⟨P, T, K, Y, n, S, ev, I, r⟩ := hI
  obtain ⟨R, M, W, X, V, E, L⟩ := id I
  have h6 := W.1
  have h10 := W.2.1
  have h5 := W.2.2.1
  cases q : S_beg S P v0 (-1) v1 with
  | false =>
    refine ⟨-1, h, B_t0 h, ?_, ?_, B_qr I r⟩
    · unfold wu_back wu_back_24
      rw [bc_m1, cr_begin_s _ _ _ R W, q, if_neg (by decide), B_bind, if_pos rfl]
    · have M2 : R_m (B_t0 h) P T K Y S := M.sm (B_t0_fr _).sm_d
      unfold mo_back mo_back_24
      rw [bc_0]
      show px_bind (mo_canGo v0 v1 (B_t0 h)) _ = _
      rw [mo_canGo_s _ _ M2 W, q, B_bind, if_pos (show B_01 false = 0 from rfl), bc_m1]
  | true =>
    obtain ⟨p, f, b, hp, hb, hf, hfb, rfl, rfl, ef, hD, ecr, C2⟩ := S_beg_go I q
    have F2 : B_fr B_sc h (B_ld h (nI 1 <<< (nI p &&& 31)) (nI f) (nI b) (nI (S_dist S Y f b))) := B_ld_fr h _ _ _ _
    have e7 : (B_ld h (nI 1 <<< (nI p &&& 31)) (nI f) (nI b) (nI (S_dist S Y f b))) 22 7 = nI f := B_ld_7 _ _ _ _ _
    generalize hab : nI 1 <<< (nI p &&& 31) = ab at *
    have hmo : ∀ hh, R_m (B_t0 hh) P T K Y S → R_a (B_t0 hh) 52 P T S → mo_back (nI p) (nI b) hh = if nI f ≤ nI 1 then mo_back_28 px_F (nI p) (nI b) (nI 2) (B_t0 hh) else some (-1, B_t0 hh) := fun hh M2 A => by
      unfold mo_back mo_back_24
      rw [bc_0]
      show px_bind (mo_canGo (nI p) (nI b) (B_t0 hh)) _ = _
      rw [mo_canGo_s _ _ M2 W, q, B_bind, if_neg (by decide), po_52 (by omega), B_ift, nI_clamp (by omega), A.1 p hp, ef, bc_1, bc_2, bc_m1]
    by_cases c : f < 2
    · obtain ⟨h4, s1, s2, s3⟩ := wk_start_s (D := S_dist S Y f b) (l := 3) (by omega) W C2 (B_ld_6 _ _ _ _ _)
      obtain ⟨h5', x, x1, x2, x3, x4⟩ := wu_back_s (h0 := h) W hD (C2.fr (s3.mono E_w_sc)) (by rw [s3 22 6 rfl]; exact B_ld_6 _ _ _ _ _) (by rw [s3 22 9 rfl]; exact B_ld_9 _ _ _ _ _) s2 (by rw [s3 45 1 rfl]; rfl) (by rw [s3.row 46 (fun _ => rfl)]; rfl)
      have F6 : B_fr B_sc h h5' := (F2.trans (s3.mono E_w_sc)).trans (x4.mono E_y_sc)
      obtain ⟨M2, MH, A⟩ := I.mo F6
      have hk := K_eq (ok := Z_ok S T ab) (ov := Z_ov ev S (S_dist S Y f b) ab) (hx := K_hx ev S T (S_dist S Y f b) ab) K_hx_len x1
      obtain ⟨g1, y1, y2⟩ := mo_back_s (h := B_t0 h5') (ev := ev) hp hab.symm ef c hb rfl W MH A
      have hwu : wu_back (nI p) (nI b) h = wu_back_192 (nI x.1) h5' := by
        unfold wu_back
        rw [bc_m1, ecr, B_bind, if_neg (by decide), e7, bc_2, if_pos (by rw [bn_lt (by omega) (by omega)]; exact c), bc_3, s1, B_bind, bc_7, bc_4, bc_1, bc_0, x2]
      have hmb := hmo h5' M2 A
      rw [if_pos (nI_le (by omega) (by omega))] at hmb
      cases w : K_ref (Z_ok S T ab) (Z_ov ev S (S_dist S Y f b) ab) (K_hx ev S T (S_dist S Y f b) ab) with
      | none =>
        rw [w] at hk y2
        change x = _ at hk
        obtain ⟨y3, y4, y5⟩ := y2
        obtain ⟨-, -, r1, -⟩ := x3
        obtain ⟨r2, r3⟩ := r1 (by rw [hk])
        refine ⟨-2, h5', g1, ?_, ?_, B_q0 I r F6 ((B_t0_fr _).trans y1) r2 r3 ?_ ?_⟩
        · rw [hwu, hk]
          unfold wu_back_192 wu_back_204
          rw [bc_6, if_neg (by decide), bc_m2]
        · rw [hmb, y3]
        · rw [y4, B_t0_at _ (by decide)]
        · rw [y5, B_t0_row _ (by decide)]
      | some z =>
        obtain ⟨all, many, r'⟩ := z
        rw [w] at hk y2
        obtain ⟨k1, k2, k3, k4, k5, k6, k7, k8⟩ := hk
        have hne : K_hs (K_hx ev S T (S_dist S Y f b) ab) r' ≠ [] := fun e => by
          rw [e] at k3
          change 0 = _ at k3
          omega
        obtain ⟨-, -, e3, -⟩ := K_hs_of (hx := K_hx ev S T (S_dist S Y f b) ab) K_hx_len hne
        rw [k3] at e3
        obtain ⟨z1, z2⟩ := y2 _ e3 k2 k3 (by omega) (by omega)
        obtain ⟨-, -, -, r1⟩ := x3
        rw [k1] at r1
        have r2 := r1 (by show all < 7; omega)
        refine ⟨nI all, h5', g1, ?_, ?_, B_q1 I F6 ((B_t0_fr _).trans y1) r2 z2 ?_⟩
        · rw [hwu, k1]
          unfold wu_back_192 wu_back_204
          rw [bc_6, if_pos (nI_le (by show all ≤ 6; omega) (by omega))]
        · rw [hmb, z1]
        · show (nI many :: (r'.map nI ++ (K_hs (K_hx ev S T (S_dist S Y f b) ab) r').map nI)).length ≤ 10
          rw [List.length_cons, List.length_append, List.length_map, List.length_map]
          omega
    · obtain ⟨M2, MH, A⟩ := I.mo F2
      have hmb := hmo _ M2 A
      rw [if_neg (nI_ge (by omega) (by omega))] at hmb
      refine ⟨-1, _, _, ?_, hmb, B_q0 I r F2 (B_t0_fr _) rfl rfl (B_t0_at _ (by decide)) (B_t0_row _ (by decide))⟩
      unfold wu_back wu_back_24
      rw [bc_m1, ecr, B_bind, if_neg (by decide), e7, bc_2, if_neg (fun w => by rw [bn_lt (by omega) (by omega)] at w; exact c w)]
end BACKM
