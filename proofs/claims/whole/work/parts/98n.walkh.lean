/-! Layer B: the class's walk_h over rows -/
section WALK_h
variable {h : pH} {P T K Y D lg m q : Nat} {S Z : pH} {ev : pE} {ab : Int32} {r : List Nat}
def E_n_h : Nat → Nat → Bool := fun a k => match a with
  | 33 => true
  | 35 => true
  | 37 => true
  | 38 => true
  | 39 => true
  | a => E_k a k
def E_w_h : Nat → Nat → Bool := fun a k => match a with
  | 34 => true
  | 36 => true
  | a => E_n_h a k
theorem E_k_n_h : ∀ a k, E_k a k = true → E_n_h a k = true := fun a k e => by
  unfold E_n_h
  split
  · rfl
  · rfl
  · rfl
  · rfl
  · rfl
  · exact e
theorem E_n_w_h : ∀ a k, E_n_h a k = true → E_w_h a k = true := fun a k e => by
  unfold E_w_h
  split
  · rfl
  · rfl
  · exact e
theorem E_w_sc_h : ∀ a k, E_w_h a k = true → B_sc a k = true := fun a k e => by
  unfold E_w_h at e
  split at e
  · rfl
  · rfl
  · unfold E_n_h at e
    split at e
    · rfl
    · rfl
    · rfl
    · rfl
    · rfl
    · exact E_k_sc _ _ e
theorem E_n_sc_h : ∀ a k, E_n_h a k = true → B_sc a k = true := fun a k e => E_w_sc_h a k (E_n_w_h a k e)
/-- the walk stands at the row r; of its first q things what comes of them is written -/
def Wk_h (h Z : pH) (T D : Nat) (ev : pE) (ab : Int32) (lg m : Nat) (r : List Nat) (q : Nat) : Prop := h 33 9 = nI r.length ∧ h 33 10 = nI m ∧ h 33 11 = B_set (Z_ok Z T ab r) 10 ∧ h 33 12 = nI lg ∧ (∀ t, t < T → h 34 t = Z 4 t) ∧ (∀ k, k < r.length → h 35 k = nI (r.getD k 0) ∧ h 38 k = nI (S_wds Z (r.take (k + 1)))) ∧ ∀ k, k < q → h 37 k = nI (S_go ev Z D ab (r.take (k + 1))).1 ∧ h 39 k = S_enc (S_go ev Z D ab (r.take (k + 1))).2.1
theorem Wk_h.fr {h' : pH} (k : Wk_h h Z T D ev ab lg m r q) (x : B_fr E_k h h') : Wk_h h' Z T D ev ab lg m r q := by
  unfold Wk_h at *
  rw [x 33 9 rfl, x 33 10 rfl, x 33 11 rfl, x 33 12 rfl, x.row 34 (fun _ => rfl), x.row 35 (fun _ => rfl), x.row 37 (fun _ => rfl), x.row 38 (fun _ => rfl), x.row 39 (fun _ => rfl)]
  exact k
theorem Wk_h.le {q' : Nat} (k : Wk_h h Z T D ev ab lg m r q) (hq : q' ≤ q) : Wk_h h Z T D ev ab lg m r q' := ⟨k.1, k.2.1, k.2.2.1, k.2.2.2.1, k.2.2.2.2.1, k.2.2.2.2.2.1, fun j hj => k.2.2.2.2.2.2 j (by omega)⟩
theorem Wk_h.mo (k : Wk_h h Z T D ev ab lg m r q) (m' : Nat) : Wk_h (px_w h 33 10 (nI m')) Z T D ev ab lg m' r q := by
  obtain ⟨k9, k10, k11, k12, k26, k27, k29⟩ := k
  refine ⟨?_, B_w_same _ _ _ _, ?_, ?_, ?_, ?_, ?_⟩
  · rw [B_w_at, if_neg (by decide)]; exact k9
  · rw [B_w_at, if_neg (by decide)]; exact k11
  · rw [B_w_at, if_neg (by decide)]; exact k12
  · rw [B_w_cell _ _ _ (by decide)]; exact k26
  · rw [B_w_cell _ _ _ (by decide), B_w_cell _ _ _ (by decide)]; exact k27
  · rw [B_w_cell _ _ _ (by decide), B_w_cell _ _ _ (by decide)]; exact k29
theorem wk_canReach_h_s (k : Wk_h h Z T D ev ab lg m r q) (hl : r.length ≤ m) (hm : m ≤ 4) (hlg : lg ≤ 40) (hD : D ≤ 60) (h9 : h 22 9 = nI D) (hw : S_wds Z r ≤ 200) : wk_canReach_h h = some (B_01 (Z_rc Z D lg m r), h) := by
  obtain ⟨k9, k10, k11, k12, k26, k27, k29⟩ := k
  have e24 : wk_canReach_h_24 (nI (S_wds Z r)) h = some (B_01 (Z_rc Z D lg m r), h) := by
    have hmul : (m - r.length) * lg ≤ 4 * 40 := Nat.mul_le_mul (by omega) hlg
    unfold wk_canReach_h_24 wk_canReach_h_56 Z_rc
    rw [k9, k10, k12, h9, pk_sub hl, pk_mul, nI_add, bc_0, bc_1]
    generalize (m - r.length) * lg = x at *
    by_cases c : D ≤ S_wds Z r + x
    · rw [if_neg (fun w => by rw [bn_lt (by omega) (by omega)] at w; omega), B_bz1, decide_eq_true c]
      rfl
    · rw [if_pos (by rw [bn_lt (by omega) (by omega)]; omega), B_bz0, decide_eq_false c]
      rfl
  unfold wk_canReach_h
  by_cases hr : r = []
  · subst hr
    rw [if_pos (k9.trans nI_0), bc_0, ← nI_0]
    exact e24
  · have hl0 : 0 < r.length := List.length_pos_iff.mpr hr
    rw [if_neg (fun w => by rw [k9, bn_eq0 (by omega)] at w; omega), k9, bc_1, pk_sub (by omega), wa_38 (by omega), B_bind, (k27 (r.length - 1) (by omega)).2, Nat.sub_add_cancel (by omega), List.take_length]
    exact e24
theorem wk_drop_h_s {t : Nat} (k : Wk_h h Z T D ev ab lg m (r ++ [t]) q) (hv : Z_v Z T ab (r ++ [t])) (h10 : T ≤ 10) (hq : r.length ≤ q) : ∃ h', wk_drop_h h = some (nI t, h') ∧ Wk_h h' Z T D ev ab lg m r r.length ∧ B_fr E_n_h h h' := by
  obtain ⟨k9, k10, k11, k12, k26, k27, k29⟩ := k
  obtain ⟨v1, v2, v3⟩ := hv.pre
  have htT := Z_us_lt v2
  have l1 : (r ++ [t]).length = r.length + 1 := by rw [List.length_append, List.length_singleton]
  have hl4 := hv.1
  rw [l1] at k9 hl4
  have e1 : h 33 9 - px_c 1 = nI r.length := by
    rw [k9, bc_1, pk_sub (by omega)]
    rfl
  refine ⟨px_w (px_w h 33 9 (nI r.length)) 33 11 (h 33 11 ||| (nI 1 <<< (nI t &&& 31))), ?_, ⟨?_, ?_, ?_, ?_, ?_, ?_, ?_⟩, ((B_fr.refl _ h).w rfl).w rfl⟩
  · unfold wk_drop_h
    rw [if_neg (fun w => by rw [k9, bn_eq0 (by omega)] at w; omega)]
    show px_bind (wu_at 35 ((px_w h 33 9 (h 33 9 - px_c 1)) 33 9) (px_w h 33 9 (h 33 9 - px_c 1))) _ = _
    rw [e1, B_w_same, wa_35 (by omega), B_bind, B_w_cell _ _ _ (show (35 : Nat) ≠ 33 by decide), (k27 r.length (by omega)).1, Z_getD_last]
    dsimp only
    rw [B_w_at, if_neg (by decide), bc_1]
  · rw [B_w_at, if_neg (by decide), B_w_same]
  · rw [B_w_at, if_neg (by decide), B_w_at, if_neg (by decide)]; exact k10
  · rw [B_w_same, k11]
    exact Z_bits_or (by omega) (Z_ok_iff.mpr ⟨v2, v3⟩)
  · rw [B_w_at, if_neg (by decide), B_w_at, if_neg (by decide)]; exact k12
  · rw [B_w_cell _ _ _ (by decide), B_w_cell _ _ _ (by decide)]; exact k26
  · intro j hj
    rw [B_w_cell _ _ _ (by decide), B_w_cell _ _ _ (by decide), B_w_cell _ _ _ (by decide), B_w_cell _ _ _ (by decide), (k27 j (by omega)).1, (k27 j (by omega)).2, Z_getD_pre r t hj, Z_take_pre r t hj]
    exact ⟨rfl, rfl⟩
  · intro j hj
    rw [B_w_cell _ _ _ (by decide), B_w_cell _ _ _ (by decide), B_w_cell _ _ _ (by decide), B_w_cell _ _ _ (by decide), (k29 j (by omega)).1, (k29 j (by omega)).2, Z_take_pre r t hj]
    exact ⟨rfl, rfl⟩
theorem wk_usableFrom_h_s (k : Wk_h h Z T D ev ab lg m r q) {f : Nat} (hf : f ≤ 11) : wk_usableFrom_h (nI f) h = some (if N_nf (Z_ok Z T ab) r f < 10 then nI (N_nf (Z_ok Z T ab) r f) else -1, h) := by
  have k11 := k.2.2.1
  have H : ∀ j f n, f + j = 10 → j < n → wk_usableFrom_h_2 n (nI f) h = some (if B_first (Z_ok Z T ab r) f j < 10 then nI (B_first (Z_ok Z T ab r) f j) else -1, h) := by
    intro j
    induction j with
    | zero =>
      intro f n hf hn
      obtain ⟨n, rfl⟩ : ∃ n', n = n' + 1 := ⟨n - 1, by omega⟩
      show (if px_c 10 ≤ nI f then _ else _) = _
      rw [bc_10, if_pos (nI_le (by omega) (by omega)), bc_m1, if_neg (by show ¬ f < 10; omega)]
    | succ j ih =>
      intro f n hf hn
      obtain ⟨n, rfl⟩ : ∃ n', n = n' + 1 := ⟨n - 1, by omega⟩
      show (if px_c 10 ≤ nI f then _ else _) = _
      rw [bc_10, if_neg (nI_ge (by omega) (by omega)), wu_has_eq _ (by omega), B_bind, k11, B_set_bit (by omega) (by omega), decide_eq_true (show f < 10 by omega), Bool.true_and]
      unfold B_first
      by_cases c : Z_ok Z T ab r f = true
      · rw [if_pos c, if_pos c, if_neg (by decide), if_pos (by omega)]
      · rw [if_neg c, if_neg c, if_pos rfl, bc_1, nI_add]
        exact ih (f + 1) n (by omega) (by omega)
  unfold wk_usableFrom_h
  by_cases c : f ≤ 10
  · have := H (10 - f) f px_F (by omega) (px_F_lt (by omega))
    exact this
  · obtain ⟨n, hn⟩ := px_F_pos (n := 0) (px_F_lt (by omega))
    have e : f = 11 := by omega
    subst e
    rw [hn]
    show (if px_c 10 ≤ nI 11 then _ else _) = _
    rw [bc_10, if_pos (nI_le (by omega) (by omega)), bc_m1]
    have : ¬ N_nf (Z_ok Z T ab) r 11 < 10 := by
      have := N_nf_ge (Z_ok Z T ab) r 11
      omega
    rw [if_neg this]
theorem wk_add_h_213_s {x3 x4 : Int32} {n : Nat} (hn : n < 4) (e : h 33 9 = nI (n + 1)) : wk_add_h_213 x3 x4 h = some (0, px_w (px_w h 37 n x3) 39 n x4) := by
  have e1 : nI (n + 1) - px_c 1 = nI n := by
    rw [bc_1, pk_sub (by omega)]
    rfl
  unfold wk_add_h_213
  rw [e, e1, wp_37 (by omega), B_bind, B_w_cell _ _ _ (show (33 : Nat) ≠ 37 by decide), e, e1, wp_39 (by omega), B_bind]
noncomputable def wk_add_h_99b (x1 x3 x4 x5 : Int32) (h6 : pH) : pR :=
  if x4 = (px_c (-1)) then
    if (h6 22 9) ≤ x3 then
      wk_add_h_213 x3 x4 h6
    else
      px_bind (wk_canReach_h h6) fun z7 h8 =>
      if z7 = 0 then
        wk_add_h_213 x3 x4 h8
      else
        px_bind (cr_kept x1 x5 x3 (px_min x5 ((h8 22 9) - x3)) h8) fun z10 h11 =>
        if (px_min x5 ((h8 22 9) - x3)) ≤ z10 then
          wk_add_h_206 x3 z10 (px_c (-1)) h11
        else
          wk_add_h_206 x3 z10 x1 h11
  else
    wk_add_h_213 x3 x4 h6
def Wa_h (h Z : pH) (T L : Nat) (ab : Int32) (r : List Nat) (t : Nat) : pH := px_w (px_w (px_w (px_w h 38 r.length (nI (S_wds Z r + L))) 35 r.length (nI t)) 33 9 (nI (r.length + 1))) 33 11 (B_set (Z_ok Z T ab (r ++ [t])) 10)
theorem Wa_h_fr (L t : Nat) : B_fr E_n_h h (Wa_h h Z T L ab r t) := ((((B_fr.refl _ h).w rfl).w rfl).w rfl).w rfl
theorem wk_add_h_99_s {x3 x4 : Int32} {L t : Nat} (k9 : h 33 9 = nI r.length) (k11 : h 33 11 = B_set (Z_ok Z T ab r) 10) (hl : r.length < 4) (ht : t < 10) : wk_add_h_99 (nI t) x3 x4 (nI L) (nI (S_wds Z r)) (nI L) (nI r.length) h = wk_add_h_99b (nI t) x3 x4 (nI L) (Wa_h h Z T L ab r t) := by
  have e4 : (px_w (px_w h 38 r.length (nI (S_wds Z r + L))) 35 r.length (nI t)) 33 = h 33 := by
    rw [B_w_cell _ _ _ (by decide), B_w_cell _ _ _ (by decide)]
  have e6 : Wa_h h Z T L ab r t = px_w (px_w (px_w (px_w h 38 r.length (nI (S_wds Z r + L))) 35 r.length (nI t)) 33 9 ((px_w (px_w h 38 r.length (nI (S_wds Z r + L))) 35 r.length (nI t)) 33 9 + px_c 1)) 33 11 ((px_w (px_w (px_w h 38 r.length (nI (S_wds Z r + L))) 35 r.length (nI t)) 33 9 ((px_w (px_w h 38 r.length (nI (S_wds Z r + L))) 35 r.length (nI t)) 33 9 + px_c 1)) 33 11 &&& (((px_c 1) <<< (nI t &&& 31)) ^^^ (px_c (-1)))) := by
    rw [B_w_at, if_neg (by decide), e4, k9, k11, bc_1, nI_add, bc_m1, Z_bits_and ht]
    rfl
  unfold wk_add_h_99
  rw [nI_add, Nat.add_comm L, wp_38 (by omega), B_bind, B_w_cell _ _ _ (show (33 : Nat) ≠ 38 by decide), k9, wp_35 (by omega), B_bind]
  dsimp only
  rw [← e6]
  rfl
theorem wk_add_h_0 {t L : Nat} (k : Wk_h h Z T D ev ab lg m r r.length) (hl : r.length < 4) (ht : t < T) (h10 : T ≤ 10) (hL : Z 4 t = nI L) : wk_add_h (nI t) h = wk_add_h_99b (nI t) (nI (S_go ev Z D ab r).1) (S_enc (S_go ev Z D ab r).2.1) (nI L) (Wa_h h Z T L ab r t) := by
  obtain ⟨k9, k10, k11, k12, k26, k27, k29⟩ := k
  rw [← wk_add_h_99_s k9 k11 hl (by omega)]
  unfold wk_add_h
  by_cases hr : r = []
  · subst hr
    rw [if_pos (k9.trans nI_0)]
    unfold wk_add_h_12
    rw [bc_1, if_neg (by decide)]
    unfold wk_add_h_34
    rw [if_neg (by decide)]
    unfold wk_add_h_56
    rw [wa_34 (by omega), B_bind, if_neg (by decide), k26 t ht, hL, k9, bc_0, bc_m1]
    rfl
  · have hl0 : 0 < r.length := List.length_pos_iff.mpr hr
    have e1 : h 33 9 - px_c 1 = nI (r.length - 1) := by rw [k9, bc_1, pk_sub (by omega)]
    have g := k29 (r.length - 1) (by omega)
    rw [Nat.sub_add_cancel (by omega), List.take_length] at g
    rw [if_neg (fun w => by rw [k9, bn_eq0 (by omega)] at w; omega)]
    unfold wk_add_h_12
    rw [bc_0, if_pos rfl, e1, wa_37 (by omega), B_bind, g.1]
    unfold wk_add_h_34
    rw [if_pos rfl, e1, wa_39 (by omega), B_bind, g.2]
    unfold wk_add_h_56
    rw [wa_34 (by omega), B_bind, if_pos rfl, e1, wa_38 (by omega), B_bind, k26 t ht, hL, (k27 (r.length - 1) (by omega)).2, Nat.sub_add_cancel (by omega), List.take_length, k9]
theorem Wa_h_Wk {t L : Nat} (k : Wk_h h Z T D ev ab lg m r r.length) (hL : Z 4 t = nI L) (hL2 : L < 2 ^ 31) : Wk_h (Wa_h h Z T L ab r t) Z T D ev ab lg m (r ++ [t]) r.length := by
  obtain ⟨k9, k10, k11, k12, k26, k27, k29⟩ := k
  have l1 : (r ++ [t]).length = r.length + 1 := by rw [List.length_append, List.length_singleton]
  unfold Wa_h
  refine ⟨?_, ?_, B_w_same _ _ _ _, ?_, ?_, ?_, ?_⟩
  · rw [B_w_at, if_neg (by decide), B_w_same, l1]
  · rw [B_w_at, if_neg (by decide), B_w_at, if_neg (by decide), B_w_cell _ _ _ (by decide), B_w_cell _ _ _ (by decide)]; exact k10
  · rw [B_w_at, if_neg (by decide), B_w_at, if_neg (by decide), B_w_cell _ _ _ (by decide), B_w_cell _ _ _ (by decide)]; exact k12
  · rw [B_w_cell _ _ _ (by decide), B_w_cell _ _ _ (by decide), B_w_cell _ _ _ (by decide), B_w_cell _ _ _ (by decide)]; exact k26
  · intro j hj
    rw [l1] at hj
    have c1 : (px_w (px_w (px_w (px_w h 38 r.length (nI (S_wds Z r + L))) 35 r.length (nI t)) 33 9 (nI (r.length + 1))) 33 11 (B_set (Z_ok Z T ab (r ++ [t])) 10)) 35 j = if j = r.length then nI t else h 35 j := by
      rw [B_w_cell _ _ _ (by decide), B_w_cell _ _ _ (by decide), B_w_at, B_w_cell _ _ _ (show (35 : Nat) ≠ 38 by decide)]
    have c2 : (px_w (px_w (px_w (px_w h 38 r.length (nI (S_wds Z r + L))) 35 r.length (nI t)) 33 9 (nI (r.length + 1))) 33 11 (B_set (Z_ok Z T ab (r ++ [t])) 10)) 38 j = if j = r.length then nI (S_wds Z r + L) else h 38 j := by
      rw [B_w_cell _ _ _ (by decide), B_w_cell _ _ _ (by decide), B_w_cell _ _ _ (by decide), B_w_at]
    rw [c1, c2]
    by_cases e : j = r.length
    · subst e
      rw [if_pos rfl, if_pos rfl, Z_getD_last, Z_take_last, S_wds_app, hL, B_n_nI hL2]
      exact ⟨rfl, rfl⟩
    · rw [if_neg e, if_neg e, Z_getD_pre r t (by omega), Z_take_pre r t (by omega)]
      exact k27 j (by omega)
  · intro j hj
    rw [B_w_cell _ _ _ (by decide), B_w_cell _ _ _ (by decide), B_w_cell _ _ _ (by decide), B_w_cell _ _ _ (by decide), B_w_cell _ _ _ (by decide), B_w_cell _ _ _ (by decide), B_w_cell _ _ _ (by decide), B_w_cell _ _ _ (by decide), Z_take_pre r t hj]
    exact k29 j hj
theorem Wk_h.put {x3 x4 : Int32} {n : Nat} (k : Wk_h h Z T D ev ab lg m r q) (hn : q ≤ n) : Wk_h (px_w (px_w h 37 n x3) 39 n x4) Z T D ev ab lg m r q := by
  obtain ⟨k9, k10, k11, k12, k26, k27, k29⟩ := k
  have c : ∀ b, b ≠ 37 → b ≠ 39 → (px_w (px_w h 37 n x3) 39 n x4) b = h b := fun b h1 h2 => by rw [B_w_cell _ _ _ h2, B_w_cell _ _ _ h1]
  unfold Wk_h
  rw [c 33 (by decide) (by decide), c 34 (by decide) (by decide), c 35 (by decide) (by decide), c 38 (by decide) (by decide)]
  refine ⟨k9, k10, k11, k12, k26, k27, fun j hj => ?_⟩
  rw [B_w_cell _ _ _ (show (37 : Nat) ≠ 39 by decide), B_w_at, if_neg (by omega), B_w_at, if_neg (by omega), B_w_cell _ _ _ (show (39 : Nat) ≠ 37 by decide)]
  exact k29 j hj
theorem Wk_h.real {n : Nat} (k : Wk_h h Z T D ev ab lg m r n) (hr : r.length = n + 1) : Wk_h (px_w (px_w h 37 n (nI (S_go ev Z D ab r).1)) 39 n (S_enc (S_go ev Z D ab r).2.1)) Z T D ev ab lg m r (n + 1) := by
  have p := k.put (x3 := nI (S_go ev Z D ab r).1) (x4 := S_enc (S_go ev Z D ab r).2.1) (Nat.le_refl n)
  refine ⟨p.1, p.2.1, p.2.2.1, p.2.2.2.1, p.2.2.2.2.1, p.2.2.2.2.2.1, fun j hj => ?_⟩
  by_cases e : j = n
  · subst e
    rw [B_w_same, B_w_cell _ _ _ (show (37 : Nat) ≠ 39 by decide), B_w_same, List.take_of_length_le (by omega)]
    exact ⟨rfl, rfl⟩
  · exact p.2.2.2.2.2.2 j (by omega)
/-- the walk has come to the row r -/
def Nd_h (h Z : pH) (T D : Nat) (ev : pE) (ab : Int32) (lg m : Nat) (r : List Nat) : Prop := Wk_h h Z T D ev ab lg m r r.length ∨ (Wk_h h Z T D ev ab lg m r (r.length - 1) ∧ Z_rc Z D lg m r = false ∧ h 39 (r.length - 1) = -1 ∧ ∃ y, y < D ∧ h 37 (r.length - 1) = nI y)
theorem wk_add_h_s {t : Nat} (hZ : ∀ i k, i ≠ 4 → Z i k = S i k) (WS : R_w P T K Y S) (W : R_w P T K Y Z) (hD : D ≤ 60) (hm : m ≤ 4) (hlg : lg ≤ 40) (C : C_h h P T K Y S ev) (h6 : h 22 6 = ab) (h9 : h 22 9 = nI D) (k : Wk_h h Z T D ev ab lg m r r.length) (hv : Z_v Z T ab r) (hl : r.length < m) (hk : Z_ok Z T ab r t = true) : ∃ h', wk_add_h (nI t) h = some (0, h') ∧ Nd_h h' Z T D ev ab lg m (r ++ [t]) ∧ B_fr E_n_h h h' := by
  have h10 := W.2.1
  have v2 := hv.app (show r.length < 4 by omega) hk
  obtain ⟨-, u1, u2⟩ := v2.pre
  have ht := Z_us_lt u1
  have hL := B_lt_n (by omega) (W.2.2.2.2.2.2.2.2.1 t ht)
  generalize hLL : B_n (Z 4 t) = L at *
  have l1 : (r ++ [t]).length = r.length + 1 := by rw [List.length_append, List.length_singleton]
  rw [wk_add_h_0 k (by omega) ht h10 hL.2]
  have k6 := Wa_h_Wk k hL.2 (show L < 2 ^ 31 by omega)
  have F6 : B_fr E_n_h h (Wa_h h Z T L ab r t) := Wa_h_fr L t
  have c9 : (Wa_h h Z T L ab r t) 33 9 = nI (r.length + 1) := by rw [← l1]; exact k6.1
  have hw : S_wds Z (r ++ [t]) ≤ 200 := by
    have := Z_wds_le W (r ++ [t]) v2.lt
    have := v2.1
    omega
  have cD := S_go_le (ev := ev) (Z := Z) (D := D) (ab := ab) r
  have ego := S_go_app (ev := ev) (Z := Z) (D := D) (ab := ab) r t
  have e4 : (S_go ev Z D ab r).2.2 4 t = Z 4 t := foldl_ne r (0, none, Z) 4 t (fun w => u2 w.2)
  -- a row that is not walked on: what comes of it is what came
  have done : ∀ x4, x4 = S_enc (S_go ev Z D ab r).2.1 → S_go ev Z D ab (r ++ [t]) = ((S_go ev Z D ab r).1, (S_go ev Z D ab r).2.1, (S_go ev Z D ab (r ++ [t])).2.2) → ∃ h', wk_add_h_213 (nI (S_go ev Z D ab r).1) x4 (Wa_h h Z T L ab r t) = some (0, h') ∧ Nd_h h' Z T D ev ab lg m (r ++ [t]) ∧ B_fr E_n_h h h' := by
    intro x4 hx4 he
    refine ⟨_, wk_add_h_213_s (n := r.length) (by omega) c9, Or.inl ?_, (F6.w rfl).w rfl⟩
    have := k6.real (n := r.length) l1
    rw [he] at this
    rw [hx4, l1]
    exact this
  unfold wk_add_h_99b
  cases hs : (S_go ev Z D ab r).2.1 with
  | some x =>
    have hx : x < T := foldl_said r (0, none, Z) (fun t w => by cases w) hv.lt x hs
    rw [if_neg (by rw [bc_m1]; show ¬ nI x = -1; intro w; rw [bn_eqm (by omega)] at w; exact w)]
    exact done _ (by rw [hs]) (Prod.ext (by rw [Z_stay hs t]) (Prod.ext (by rw [Z_stay hs t]) rfl))
  | none =>
    rw [if_pos (show S_enc none = px_c (-1) by rw [bc_m1]; rfl), show (Wa_h h Z T L ab r t) 22 9 = nI D by rw [F6 22 9 rfl, h9]]
    by_cases cc : D ≤ (S_go ev Z D ab r).1
    · rw [if_pos (nI_le cc (by omega))]
      refine done _ (by rw [hs]) ?_
      rw [ego]
      unfold S_st
      rw [hs]
      dsimp only
      have e0 : min (B_n ((S_go ev Z D ab r).2.2 4 t)) (D - (S_go ev Z D ab r).1) = 0 := by omega
      rw [e0]
      rfl
    · rw [if_neg (nI_ge (by omega) (by omega)), wk_canReach_h_s k6 (by rw [l1]; omega) hm hlg hD (by rw [F6 22 9 rfl, h9]) hw, B_bind]
      cases hrc : Z_rc Z D lg m (r ++ [t]) with
      | false =>
        rw [if_pos (show B_01 false = 0 from rfl)]
        refine ⟨_, wk_add_h_213_s (n := r.length) (by omega) c9, Or.inr ⟨?_, hrc, ?_, (S_go ev Z D ab r).1, by omega, ?_⟩, (F6.w rfl).w rfl⟩
        · rw [l1]
          exact k6.put (Nat.le_refl _)
        · rw [l1]
          exact B_w_same _ _ _ _
        · rw [l1, B_w_cell _ _ _ (show (37 : Nat) ≠ 39 by decide)]
          exact B_w_same _ _ _ _
      | true =>
        rw [if_neg (by decide), show (Wa_h h Z T L ab r t) 22 9 = nI D by rw [F6 22 9 rfl, h9], pk_sub (by omega), px_min_nI (by omega) (by omega)]
        obtain ⟨h7, g1, g2, -⟩ := cr_kept_s (ab := ab) (t := t) (L := L) (b := (S_go ev Z D ab r).1) (m := min L (D - (S_go ev Z D ab r).1)) ht (by omega) (by omega) (by omega) (by rw [F6 22 6 rfl, h6]) (C.fr (F6.mono E_n_sc_h)) WS
        rw [S_bu_Z hZ] at g1
        have k7 := k6.fr g2
        have F7 := F6.trans (g2.mono E_k_n_h)
        have c97 : h7 33 9 = nI (r.length + 1) := by rw [g2 33 9 rfl]; exact c9
        have hle := (B_first_le (S_bu ev Z ab t L (S_go ev Z D ab r).1) (min L (D - (S_go ev Z D ab r).1)) 0).2
        have hst : S_go ev Z D ab (r ++ [t]) = ((S_go ev Z D ab r).1 + B_first (S_bu ev Z ab t L (S_go ev Z D ab r).1) 0 (min L (D - (S_go ev Z D ab r).1)), if B_first (S_bu ev Z ab t L (S_go ev Z D ab r).1) 0 (min L (D - (S_go ev Z D ab r).1)) < min L (D - (S_go ev Z D ab r).1) then some t else none, (S_go ev Z D ab (r ++ [t])).2.2) := by
          rw [ego]
          unfold S_st
          rw [hs]
          dsimp only
          rw [e4, hLL]
        rw [g1, B_bind]
        have kr := k7.real (n := r.length) l1
        rw [hst] at kr
        dsimp only at kr
        generalize B_first (S_bu ev Z ab t L (S_go ev Z D ab r).1) 0 (min L (D - (S_go ev Z D ab r).1)) = kk at *
        unfold wk_add_h_206
        dsimp only
        rw [nI_add]
        by_cases w : kk < min L (D - (S_go ev Z D ab r).1)
        · rw [if_pos w] at kr
          rw [if_neg (nI_ge w (by omega))]
          refine ⟨_, wk_add_h_213_s (n := r.length) (by omega) c97, Or.inl ?_, (F7.w rfl).w rfl⟩
          rw [l1]
          exact kr
        · rw [if_neg w] at kr
          rw [if_pos (nI_le (by omega) (by omega)), bc_m1]
          refine ⟨_, wk_add_h_213_s (n := r.length) (by omega) c97, Or.inl ?_, (F7.w rfl).w rfl⟩
          rw [l1]
          exact kr
theorem wk_next_h_end (k : Wk_h h Z T D ev ab lg m [] 0) (hm : m ≤ 4) : ∀ (j u n f : Nat), u + j = 5 → j < n → f ≤ 11 → ¬ (0 < m ∧ N_nf (Z_ok Z T ab) [] f < 10) → wk_next_h_35 n (nI f) (nI u) h = some (0, h) := by
  have k9 : h 33 9 = nI 0 := k.1
  have k10 := k.2.1
  have hd : wk_drop_h h = some (nI 10, h) := by
    unfold wk_drop_h
    rw [if_pos (k9.trans nI_0), bc_10]
  intro j
  induction j with
  | zero =>
    intro u n f hu hn hf hc
    obtain ⟨n, rfl⟩ : ∃ n', n = n' + 1 := ⟨n - 1, by omega⟩
    show (if px_c 4 < nI u then _ else _) = _
    rw [bc_4, if_pos (by rw [bn_lt (by omega) (by omega)]; omega), bc_0, B_bz0]
  | succ j ih =>
    intro u n f hu hn hf hc
    obtain ⟨n, rfl⟩ : ∃ n', n = n' + 1 := ⟨n - 1, by omega⟩
    have i1 := ih (u + 1) n 11 (by omega) (by omega) (by omega) (fun w => by have := N_nf_ge (Z_ok Z T ab) [] 11; omega)
    have e60 : wk_next_h_60 (wk_next_h_35 n) (nI u) (-1) h = some (0, h) := by
      unfold wk_next_h_60
      rw [if_pos bc_m1.symm, hd, B_bind]
      dsimp only
      rw [bc_1, nI_add, nI_add]
      exact i1
    show (if px_c 4 < nI u then _ else _) = _
    rw [bc_4, if_neg (fun w => by rw [bn_lt (by omega) (by omega)] at w; omega), k9, k10]
    by_cases c : 0 < m
    · rw [if_neg (nI_ge c (by omega)), wk_usableFrom_h_s k hf, if_neg (fun w => hc ⟨c, w⟩), B_bind]
      exact e60
    · rw [if_pos (nI_le (by omega) (by omega)), bc_m1]
      exact e60
def Nx_h (h Z : pH) (T D : Nat) (ev : pE) (ab : Int32) (lg m : Nat) (o : Option (List Nat)) (x : pR) : Prop := ∃ h', B_fr E_n_h h h' ∧ ((o = none ∧ x = some (0, h')) ∨ ∃ r2, o = some r2 ∧ x = some (nI 1, h') ∧ Z_v Z T ab r2 ∧ r2.length ≤ m ∧ r2 ≠ [] ∧ Nd_h h' Z T D ev ab lg m r2)
theorem wk_next_h_loop (hZ : ∀ i k, i ≠ 4 → Z i k = S i k) (WS : R_w P T K Y S) (W : R_w P T K Y Z) (hD : D ≤ 60) (hm : m ≤ 4) (hlg : lg ≤ 40) : ∀ (l : Nat) (r : List Nat) (f u n : Nat) (h : pH), r.length = l → u + l ≤ 4 → 6 ≤ n + u → f ≤ 11 → C_h h P T K Y S ev → h 22 6 = ab → h 22 9 = nI D → Wk_h h Z T D ev ab lg m r r.length → Z_v Z T ab r → Nx_h h Z T D ev ab lg m (N_u (Z_ok Z T ab) m r f) (wk_next_h_35 n (nI f) (nI u) h) := by
  have h10 := W.2.1
  intro l
  induction l with
  | zero =>
    intro r f u n h hr hu hn hf C h6 h9 k hv
    have : r = [] := List.length_eq_zero_iff.mp hr
    subst this
    by_cases c : ([] : List Nat).length < m ∧ N_nf (Z_ok Z T ab) [] f < 10
    · obtain ⟨n, rfl⟩ : ∃ n', n = n' + 1 := ⟨n - 1, by omega⟩
      have k9 : h 33 9 = nI 0 := k.1
      have hc0 : 0 < m := c.1
      obtain ⟨h', a1, a2, a3⟩ := wk_add_h_s hZ WS W hD hm hlg C h6 h9 k hv c.1 (N_nf_ok c.2)
      refine ⟨h', a3, Or.inr ⟨_, N_u_c c, ?_, hv.app (by show 0 < 4; omega) (N_nf_ok c.2), by rw [List.length_append, List.length_singleton]; exact c.1, by simp, a2⟩⟩
      show (if px_c 4 < nI u then _ else _) = _
      rw [bc_4, if_neg (fun w => by rw [bn_lt (by omega) (by omega)] at w; omega), k9, k.2.1, if_neg (nI_ge hc0 (by omega)), wk_usableFrom_h_s k hf, if_pos c.2, B_bind]
      unfold wk_next_h_60
      rw [if_neg (fun w => by rw [bc_m1, bn_eqm (by omega)] at w; exact w), a1, B_bind, bc_1, B_bz1]
    · refine ⟨h, B_fr.refl _ _, Or.inl ⟨by rw [N_u_d c, N_d_nil], wk_next_h_end k hm (5 - u) u n f (by omega) (by omega) hf c⟩⟩
  | succ l ih =>
    intro r f u n h hr hu hn hf C h6 h9 k hv
    obtain ⟨n, rfl⟩ : ∃ n', n = n' + 1 := ⟨n - 1, by omega⟩
    have k9 := k.1
    have hv4 := hv.1
    by_cases c : r.length < m ∧ N_nf (Z_ok Z T ab) r f < 10
    · obtain ⟨h', a1, a2, a3⟩ := wk_add_h_s hZ WS W hD hm hlg C h6 h9 k hv c.1 (N_nf_ok c.2)
      refine ⟨h', a3, Or.inr ⟨_, N_u_c c, ?_, hv.app (by omega) (N_nf_ok c.2), by rw [List.length_append, List.length_singleton]; omega, by simp, a2⟩⟩
      show (if px_c 4 < nI u then _ else _) = _
      rw [bc_4, if_neg (fun w => by rw [bn_lt (by omega) (by omega)] at w; omega), k9, k.2.1, if_neg (nI_ge c.1 (by omega)), wk_usableFrom_h_s k hf, if_pos c.2, B_bind]
      unfold wk_next_h_60
      rw [if_neg (fun w => by rw [bc_m1, bn_eqm (by omega)] at w; exact w), a1, B_bind, bc_1, B_bz1]
    · rcases List.eq_nil_or_concat r with rfl | ⟨r0, t, rfl⟩
      · cases hr
      · rw [List.concat_eq_append] at *
        have l1 : (r0 ++ [t]).length = r0.length + 1 := by rw [List.length_append, List.length_singleton]
        obtain ⟨v1, v2, v3⟩ := hv.pre
        have htT := Z_us_lt v2
        obtain ⟨h1, d1, d2, d3⟩ := wk_drop_h_s k hv h10 (by rw [l1]; omega)
        obtain ⟨h', i1, i2⟩ := ih r0 (t + 1) (u + 1) n h1 (by omega) (by omega) (by omega) (by omega) (C.fr (d3.mono E_n_sc_h)) (by rw [d3 22 6 rfl, h6]) (by rw [d3 22 9 rfl, h9]) d2 v1
        have e60 : wk_next_h_60 (wk_next_h_35 n) (nI u) (-1) h = wk_next_h_35 n (nI (t + 1)) (nI (u + 1)) h1 := by
          unfold wk_next_h_60
          rw [if_pos bc_m1.symm, d1, B_bind]
          dsimp only
          rw [bc_1, nI_add, nI_add]
        have e35 : wk_next_h_35 (n + 1) (nI f) (nI u) h = wk_next_h_35 n (nI (t + 1)) (nI (u + 1)) h1 := by
          rw [← e60]
          show (if px_c 4 < nI u then _ else _) = _
          rw [bc_4, if_neg (fun w => by rw [bn_lt (by omega) (by omega)] at w; omega), k9, k.2.1]
          by_cases cl : (r0 ++ [t]).length < m
          · rw [if_neg (nI_ge cl (by omega)), wk_usableFrom_h_s k hf, if_neg (fun w => c ⟨cl, w⟩), B_bind]
          · rw [if_pos (nI_le (by omega) (by omega)), bc_m1]
        rw [N_u_d c, N_d_app, e35]
        exact ⟨h', d3.trans i1, i2⟩
theorem wk_next_h_s {d : Bool} (hZ : ∀ i k, i ≠ 4 → Z i k = S i k) (WS : R_w P T K Y S) (W : R_w P T K Y Z) (hD : D ≤ 60) (hm : m ≤ 4) (hlg : lg ≤ 40) (C : C_h h P T K Y S ev) (h6 : h 22 6 = ab) (h9 : h 22 9 = nI D) (k : Wk_h h Z T D ev ab lg m r (r.length - 1)) (kc : Z_rc Z D lg m r = true → Wk_h h Z T D ev ab lg m r r.length) (hv : Z_v Z T ab r) : Nx_h h Z T D ev ab lg m (N_x (Z_ok Z T ab) m (Z_rc Z D lg m r) r d) (wk_next_h (B_01 d) h) := by
  have h10 := W.2.1
  have hv4 := hv.1
  obtain ⟨nF, hF⟩ := px_F_pos (n := 9) (px_F_lt (by omega))
  have hF9 : 9 < px_F := px_F_lt (by omega)
  have e26 : Nx_h h Z T D ev ab lg m (N_d (Z_ok Z T ab) m r) (wk_next_h_26 h) := by
    rcases List.eq_nil_or_concat r with rfl | ⟨r0, t, rfl⟩
    · refine ⟨h, B_fr.refl _ _, Or.inl ⟨N_d_nil _ _, ?_⟩⟩
      have hd : wk_drop_h h = some (nI 10, h) := by
        unfold wk_drop_h
        rw [if_pos (k.1.trans nI_0), bc_10]
      unfold wk_next_h_26 wk_next_h_32
      rw [hd, B_bind, bc_1, nI_add, bc_0, ← nI_0]
      exact wk_next_h_end k hm 5 0 px_F 11 rfl (by omega) (by omega) (fun w => by have := N_nf_ge (Z_ok Z T ab) [] 11; omega)
    · rw [List.concat_eq_append] at *
      have l1 : (r0 ++ [t]).length = r0.length + 1 := by rw [List.length_append, List.length_singleton]
      obtain ⟨v1, v2, v3⟩ := hv.pre
      have htT := Z_us_lt v2
      obtain ⟨h1, d1, d2, d3⟩ := wk_drop_h_s k hv h10 (by rw [l1]; omega)
      obtain ⟨h', i1, i2⟩ := wk_next_h_loop hZ WS W hD hm hlg r0.length r0 (t + 1) 0 px_F h1 rfl (by omega) (by omega) (by omega) (C.fr (d3.mono E_n_sc_h)) (by rw [d3 22 6 rfl, h6]) (by rw [d3 22 9 rfl, h9]) d2 v1
      unfold wk_next_h_26 wk_next_h_32
      rw [d1, B_bind, bc_1, nI_add, bc_0, ← nI_0, N_d_app]
      exact ⟨h', d3.trans i1, i2⟩
  unfold N_x wk_next_h
  cases d with
  | false =>
    rw [if_pos (show B_01 false = 0 from rfl), if_neg (fun w => by cases w.1)]
    exact e26
  | true =>
    rw [if_neg (show ¬ B_01 true = 0 by decide), k.1, k.2.1]
    by_cases c : r.length < m
    · rw [if_neg (nI_ge c (by omega)), wk_canReach_h_s k (by omega) hm hlg hD h9 (by have := Z_wds_le W r hv.lt; omega), B_bind]
      cases q : Z_rc Z D lg m r with
      | false =>
        rw [if_pos (show B_01 false = 0 from rfl), if_neg (fun w => by cases w.2.2)]
        exact e26
      | true =>
        rw [if_neg (show ¬ B_01 true = 0 by decide), if_pos ⟨rfl, c, rfl⟩]
        unfold wk_next_h_32
        have := wk_next_h_loop hZ WS W hD hm hlg r.length r 0 0 px_F h rfl (by omega) (by omega) (by omega) C h6 h9 (kc q) hv
        rw [bc_0]
        rw [nI_0] at this
        exact this
    · rw [if_pos (nI_le (by omega) (by omega)), if_neg (fun w => c w.2.1)]
      exact e26
theorem Nd_h.k1 (nd : Nd_h h Z T D ev ab lg m r) : Wk_h h Z T D ev ab lg m r (r.length - 1) := by
  rcases nd with k | k
  · exact k.le (by omega)
  · exact k.1
theorem Nd_h.k2 (nd : Nd_h h Z T D ev ab lg m r) (c : Z_rc Z D lg m r = true) : Wk_h h Z T D ev ab lg m r r.length := by
  rcases nd with k | k
  · exact k
  · rw [k.2.1] at c
    cases c
theorem Z_rc_of_h (c : D ≤ S_wds Z r) : Z_rc Z D lg m r = true := by
  unfold Z_rc
  exact decide_eq_true (Nat.le_trans c (Nat.le_add_right _ _))
theorem Wk_h.top (k : Wk_h h Z T D ev ab lg m r r.length) (hne : r ≠ []) : h 37 (r.length - 1) = nI (S_go ev Z D ab r).1 ∧ h 39 (r.length - 1) = S_enc (S_go ev Z D ab r).2.1 := by
  have hl0 : 0 < r.length := List.length_pos_iff.mpr hne
  have := k.2.2.2.2.2.2 (r.length - 1) (by omega)
  rw [Nat.sub_add_cancel (by omega), List.take_length] at this
  exact this
theorem wk_said_h (k : Wk_h h Z T D ev ab lg m r q) (hv : r.length ≤ 4) (hne : r ≠ []) : wk_saidThing_h h = some (h 39 (r.length - 1), h) ∧ wk_crossed_h h = some (h 37 (r.length - 1), h) ∧ h 33 9 - px_c 1 = nI (r.length - 1) ∧ h 38 (r.length - 1) = nI (S_wds Z r) := by
  have hl0 : 0 < r.length := List.length_pos_iff.mpr hne
  have e1 : h 33 9 - px_c 1 = nI (r.length - 1) := by rw [k.1, bc_1, pk_sub (by omega)]
  refine ⟨?_, ?_, e1, ?_⟩
  · unfold wk_saidThing_h
    rw [e1, wa_39 (by omega), B_bind]
  · unfold wk_crossed_h
    rw [e1, wa_37 (by omega), B_bind]
  · have := (k.2.2.2.2.2.1 (r.length - 1) (by omega)).2
    rw [Nat.sub_add_cancel (by omega), List.take_length] at this
    exact this
theorem wk_node_h (W : R_w P T K Y Z) (hD : D ≤ 60) (h9 : h 22 9 = nI D) (nd : Nd_h h Z T D ev ab lg m r) (hv : Z_v Z T ab r) (hne : r ≠ []) : wk_isOver_h h = some (B_01 (Z_ov ev Z D ab r), h) ∧ ∃ d, wk_isUnderWay_h h = some (B_01 d, h) ∧ (d = Z_dp ev Z D ab r ∨ Z_rc Z D lg m r = false) := by
  have h10 := W.2.1
  obtain ⟨s1, s2, s3, s4⟩ := wk_said_h nd.k1 hv.1 hne
  have hw := Z_wds_le W r hv.lt
  have hv4 := hv.1
  rcases nd with k | ⟨k, hrc, p1, y, hy, p2⟩
  · obtain ⟨t1, t2⟩ := k.top hne
    rw [t2] at s1
    rw [t1] at s2
    have cD := S_go_le (ev := ev) (Z := Z) (D := D) (ab := ab) r
    unfold Z_ov Z_dp wk_isOver_h wk_isUnderWay_h
    rw [s1, B_bind, B_bind, bc_m1]
    cases hs : (S_go ev Z D ab r).2.1 with
    | some x =>
      have hx : x < T := foldl_said r (0, none, Z) (fun t w => by cases w) hv.lt x hs
      have hn : ¬ S_enc (some x) = -1 := fun w => by
        change nI x = -1 at w
        rw [bn_eqm (by omega)] at w
        exact w
      rw [if_neg hn, if_neg hn]
      refine ⟨?_, false, ?_, Or.inl ?_⟩
      · unfold wk_isOver_h_26 wk_isOver_h_27
        rw [bc_0, B_bz0]
        simp [B_01]
      · unfold wk_isUnderWay_h_26 wk_isUnderWay_h_27
        rw [bc_0, B_bz0]
        rfl
      · simp
    | none =>
      have hc := hv.none W hs
      rw [if_pos (show S_enc none = -1 from rfl), if_pos (show S_enc none = -1 from rfl), s2, B_bind, B_bind, h9]
      refine ⟨?_, decide (S_wds Z r < D), ?_, Or.inl ?_⟩
      · unfold wk_isOver_h_26 wk_isOver_h_27
        rw [bc_0, B_bz0, bc_1, B_bz1]
        by_cases c : D ≤ S_wds Z r
        · rw [if_pos (by rw [hc, Nat.min_eq_left c]), decide_eq_true c]
          rfl
        · rw [if_neg (fun w => by rw [bn_eq (by omega) (by omega)] at w; omega), decide_eq_false c]
          rfl
      · unfold wk_isUnderWay_h_26 wk_isUnderWay_h_27
        rw [bc_0, B_bz0, bc_1, B_bz1]
        by_cases c : D ≤ S_wds Z r
        · rw [if_pos (nI_le (by omega) (by omega)), decide_eq_false (by omega)]
          rfl
        · rw [if_neg (nI_ge (by omega) (by omega)), decide_eq_true (by omega)]
          rfl
      · simp
  · have hlt : ¬ D ≤ S_wds Z r := fun w => by
      rw [Z_rc_of_h w] at hrc
      cases hrc
    rw [p1] at s1
    rw [p2] at s2
    unfold Z_ov wk_isOver_h wk_isUnderWay_h
    rw [s1, B_bind, B_bind, bc_m1, if_pos rfl, if_pos rfl, s2, B_bind, B_bind, h9, decide_eq_false hlt]
    refine ⟨?_, true, ?_, Or.inr hrc⟩
    · unfold wk_isOver_h_26 wk_isOver_h_27
      rw [if_neg (fun w => by rw [bn_eq (by omega) (by omega)] at w; omega), bc_0, B_bz0]
      rfl
    · unfold wk_isUnderWay_h_27
      rw [if_neg (nI_ge hy (by omega)), bc_1, B_bz1]
      rfl
theorem wk_copyToBest_h_s (k9 : h 33 9 = nI r.length) (hr : r.length ≤ 4) : ∃ h', wk_copyToBest_h h = some (0, h') ∧ (∀ j, j < r.length → h' 36 j = h 35 j) ∧ B_fr (E_a 36) h h' := by
  have H : ∀ (j k n : Nat) (g : pH), k + j = r.length → j < n → B_fr (E_a 36) h g → (∀ i, i < k → g 36 i = h 35 i) → ∃ h', wk_copyToBest_h_2 n (nI k) g = some (0, h') ∧ (∀ i, i < r.length → h' 36 i = h 35 i) ∧ B_fr (E_a 36) h h' := by
    intro j
    induction j with
    | zero =>
      intro k n g hk hn F e
      obtain ⟨n, rfl⟩ : ∃ n', n = n' + 1 := ⟨n - 1, by omega⟩
      refine ⟨g, ?_, fun i hi => e i (by omega), F⟩
      show (if g 33 9 ≤ nI k then _ else _) = _
      rw [F 33 9 rfl, k9, if_pos (nI_le (by omega) (by omega))]
    | succ j ih =>
      intro k n g hk hn F e
      obtain ⟨n, rfl⟩ : ∃ n', n = n' + 1 := ⟨n - 1, by omega⟩
      obtain ⟨h', x1, x2, x3⟩ := ih (k + 1) n (px_w g 36 k (h 35 k)) (by omega) (by omega) (F.w rfl) (fun i hi => by
        rw [B_w_at]
        by_cases c : i = k
        · rw [if_pos c, c]
        · rw [if_neg c]
          exact e i (by omega))
      refine ⟨h', ?_, x2, x3⟩
      show (if g 33 9 ≤ nI k then _ else _) = _
      rw [F 33 9 rfl, k9, if_neg (nI_ge (by omega) (by omega)), wa_35 (by omega), B_bind, F 35 k rfl, wp_36 (by omega), B_bind, bc_1, nI_add]
      exact x1
  unfold wk_copyToBest_h
  rw [bc_0, ← nI_0]
  exact H r.length 0 px_F h (by omega) (px_F_lt (by omega)) (B_fr.refl _ _) (fun i hi => by omega)
theorem Wk_h.fb {h' : pH} (k : Wk_h h Z T D ev ab lg m r q) (x : B_fr (E_a 36) h h') : Wk_h h' Z T D ev ab lg m r q := by
  unfold Wk_h at *
  rw [x 33 9 rfl, x 33 10 rfl, x 33 11 rfl, x 33 12 rfl, x.row 34 (fun _ => rfl), x.row 35 (fun _ => rfl), x.row 37 (fun _ => rfl), x.row 38 (fun _ => rfl), x.row 39 (fun _ => rfl)]
  exact k
theorem N_x_rc_h {ok : List Nat → Nat → Bool} {c : Bool} (h : c = false) (d d' : Bool) : N_x ok m c r d = N_x ok m c r d' := by
  unfold N_x
  rw [h, if_neg (fun w => by cases w.2.2), if_neg (fun w => by cases w.2.2)]
theorem E_a_w_h : ∀ a k, E_a 36 a k = true → E_w_h a k = true := fun a k e => by
  have := Nat.eq_of_beq_eq_true e
  subst this
  rfl
theorem wk_findShortest_h_sim (hZ : ∀ i k, i ≠ 4 → Z i k = S i k) (WS : R_w P T K Y S) (W : R_w P T K Y Z) (hD : D ≤ 60) (hlg : lg ≤ 40) : ∀ (N : Nat) (r b : List Nat) (m k n : Nat) (d : Bool) (h : pH) (x : Nat × List Nat), W_l (Z_ok Z T ab) F_M (fun a r => Z_rc Z D lg (F_M a) r) (F_bd (Z_ov ev Z D ab)) (Z_dp ev Z D ab) N (N_x (Z_ok Z T ab) m (Z_rc Z D lg m r) r d) (m, b) = some x → m ≤ 4 → Z_v Z T ab r → C_h h P T K Y S ev → h 22 6 = ab → h 22 9 = nI D → Wk_h h Z T D ev ab lg m r (r.length - 1) → (Z_rc Z D lg m r = true → Wk_h h Z T D ev ab lg m r r.length) → b.length ≤ 4 → (∀ j, j < b.length → h 36 j = nI (b.getD j 0)) → k + N ≤ 1000000 → N ≤ n → ∃ h', wk_findShortest_h_6 n (nI b.length) (B_01 d) (nI k) h = some (nI x.2.length, h') ∧ B_fr E_w_h h h' ∧ x.2.length ≤ 4 ∧ ∀ j, j < x.2.length → h' 36 j = nI (x.2.getD j 0) := by
  intro N
  induction N with
  | zero => intro r b m k n d h x hx; cases hx
  | succ N ih =>
    intro r b m k n d h x hx hm hv C h6 h9 kk kc hb eb hk hn
    obtain ⟨n, rfl⟩ : ∃ n', n = n' + 1 := ⟨n - 1, by omega⟩
    have ek : px_k 1000000 = nI 1000000 := px_k_eq _
    obtain ⟨h1, F1, o⟩ := wk_next_h_s (d := d) hZ WS W hD hm hlg C h6 h9 kk kc hv
    have hz : wk_findShortest_h_6 (n + 1) (nI b.length) (B_01 d) (nI k) h = px_bind (wk_next_h (B_01 d) h) fun z1 h2 => if z1 = 0 then wk_findShortest_h_57 (nI b.length) h2 else px_bind (wk_isUnderWay_h h2) fun z3 h4 => px_bind (wk_isOver_h h4) fun z5 h6 => if z5 = 0 then wk_findShortest_h_51 (wk_findShortest_h_6 n) (nI b.length) z3 (nI k) h6 else px_bind (wk_copyToBest_h (px_w h6 33 10 ((h6 33 9) - (px_c 1)))) fun _ h10 => wk_findShortest_h_51 (wk_findShortest_h_6 n) (h6 33 9) z3 (nI k) h10 := by
      show (if px_k 1000000 ≤ nI k then _ else _) = _
      rw [ek, if_neg (nI_ge (by omega) (by omega))]
    rw [hz]
    rcases o with ⟨o1, o2⟩ | ⟨r2, o1, o2, v2, l2, n2, nd⟩
    · rw [o1] at hx
      change some (m, b) = some x at hx
      cases hx
      rw [o2, B_bind, if_pos rfl]
      exact ⟨h1, rfl, F1.mono E_n_w_h, hb, fun j hj => by rw [F1 36 j rfl]; exact eb j hj⟩
    · rw [o1] at hx
      change W_l _ _ _ _ _ N (N_x _ (F_M (F_bd (Z_ov ev Z D ab) r2 (m, b))) (Z_rc Z D lg (F_M (F_bd (Z_ov ev Z D ab) r2 (m, b))) r2) r2 (Z_dp ev Z D ab r2)) (F_bd (Z_ov ev Z D ab) r2 (m, b)) = some x at hx
      have h91 : h1 22 9 = nI D := by rw [F1 22 9 rfl, h9]
      have h61 : h1 22 6 = ab := by rw [F1 22 6 rfl, h6]
      obtain ⟨i1, d', i3, i4⟩ := wk_node_h W hD h91 nd v2 n2
      have hv4 := v2.1
      rw [o2, B_bind, if_neg (by decide), i3, B_bind, i1, B_bind]
      have C1 := C.fr (F1.mono E_n_sc_h)
      unfold wk_findShortest_h_51
      rw [bc_1, nI_add]
      cases ho : Z_ov ev Z D ab r2 with
      | false =>
        have e1 : F_bd (Z_ov ev Z D ab) r2 (m, b) = (m, b) := if_neg (by rw [ho]; decide)
        rw [e1, F_M_eq (a := (m, b)) hm] at hx
        dsimp only at hx
        have e2 : N_x (Z_ok Z T ab) m (Z_rc Z D lg m r2) r2 (Z_dp ev Z D ab r2) = N_x (Z_ok Z T ab) m (Z_rc Z D lg m r2) r2 d' := by
          rcases i4 with i4 | i4
          · rw [i4]
          · exact N_x_rc_h i4 _ _
        rw [e2] at hx
        rw [if_pos (show B_01 false = 0 from rfl)]
        obtain ⟨h', y1, y2, y3⟩ := ih r2 b m (k + 1) n d' h1 x hx hm v2 C1 h61 h91 nd.k1 (fun c => nd.k2 c) hb (fun j hj => by rw [F1 36 j rfl]; exact eb j hj) (by omega) (by omega)
        exact ⟨h', y1, (F1.mono E_n_w_h).trans y2, y3⟩
      | true =>
        have e1 : F_bd (Z_ov ev Z D ab) r2 (m, b) = (r2.length - 1, r2) := if_pos ho
        have hw : D ≤ S_wds Z r2 := by
          unfold Z_ov at ho
          simp only [Bool.and_eq_true, decide_eq_true_eq] at ho
          exact ho.1
        have kf := nd.k2 (Z_rc_of_h hw)
        have k9 := kf.1
        have hne0 : 0 < r2.length := List.length_pos_iff.mpr n2
        rw [e1, F_M_eq (a := (r2.length - 1, r2)) (by show r2.length - 1 ≤ 4; omega)] at hx
        dsimp only at hx
        have e3 : h1 33 9 - nI 1 = nI (r2.length - 1) := by rw [k9, pk_sub (by omega)]
        have e2 : N_x (Z_ok Z T ab) (r2.length - 1) (Z_rc Z D lg (r2.length - 1) r2) r2 (Z_dp ev Z D ab r2) = N_x (Z_ok Z T ab) (r2.length - 1) (Z_rc Z D lg (r2.length - 1) r2) r2 d' := by
          unfold N_x
          rw [if_neg (fun w => by omega), if_neg (fun w => by omega)]
        rw [e2] at hx
        rw [if_neg (by decide), e3]
        have km := kf.mo (r2.length - 1)
        have F2 : B_fr E_n_h h1 (px_w h1 33 10 (nI (r2.length - 1))) := (B_fr.refl _ _).w rfl
        obtain ⟨h3, c1, c2, c3⟩ := wk_copyToBest_h_s (r := r2) km.1 hv4
        rw [c1, B_bind, k9]
        have F3 : B_fr E_w_h h1 h3 := (F2.mono E_n_w_h).trans (c3.mono E_a_w_h)
        have k3 := km.fb c3
        obtain ⟨h', y1, y2, y3⟩ := ih r2 r2 (r2.length - 1) (k + 1) n d' h3 x hx (by omega) v2 (C1.fr (F3.mono E_w_sc_h)) (by rw [F3 22 6 rfl, h61]) (by rw [F3 22 9 rfl, h91]) (k3.le (by omega)) (fun _ => k3) hv4 (fun j hj => by rw [c2 j hj]; exact (km.2.2.2.2.2.1 j hj).1) (by omega) (by omega)
        exact ⟨h', y1, ((F1.mono E_n_w_h).trans F3).trans y2, y3⟩
def Z_lgs_h (Z : pH) (T : Nat) (ab : Int32) (k : Nat) : Nat := B_fold (fun t a => if Z_us Z T ab t = true then max a (B_n (Z 4 t)) else a) 0 k 0
theorem B_fold_snoc_h {α : Type} (g : Nat → α → α) (k : Nat) (a : α) : B_fold g 0 (k + 1) a = g k (B_fold g 0 k a) := by
  rw [B_fold_add g k 1 0 a, Nat.zero_add]
  rfl
theorem B_set_snoc_h (c : Nat → Bool) (k : Nat) : B_set c (k + 1) = B_set c k ||| (if c k = true then nI 1 <<< (nI k &&& 31) else 0) := by
  unfold B_set
  rw [B_fold_snoc_h]
theorem px_max_nI_h {a b : Nat} (ha : a < 2 ^ 31) (hb : b < 2 ^ 31) : px_max (nI a) (nI b) = nI (max a b) := by
  unfold px_max
  by_cases c : a < b
  · rw [if_pos (by rw [bn_lt ha hb]; exact c), Nat.max_eq_right (by omega)]
  · rw [if_neg (fun w => by rw [bn_lt ha hb] at w; exact c w), Nat.max_eq_left (by omega)]
theorem Z_lgs_h_le (W : R_w P T K Y Z) (k : Nat) : Z_lgs_h Z T ab k ≤ 40 := by
  have := B_fold_inv (g := fun t a => if Z_us Z T ab t = true then max a (B_n (Z 4 t)) else a) (I := fun _ a => a ≤ 40) k 0 0 (by omega) (fun j b _ _ hb => by
    split
    · rename_i q
      have := B_lt_n (by omega) (W.2.2.2.2.2.2.2.2.1 j (Z_us_lt q))
      omega
    · exact hb)
  exact this
theorem wk_startOnLeft_h_step {k : Nat} {r26 : Int32 → pH → pR} (hZ : ∀ i k, i ≠ 4 → Z i k = S i k) (WS : R_w P T K Y S) (W : R_w P T K Y Z) (R : R_c h P T K Y S) (h6 : h 22 6 = ab) (e26 : ∀ t, t < T → h 34 t = Z 4 t) (k11 : h 33 11 = B_set (Z_us Z T ab) k) (k12 : h 33 12 = nI (Z_lgs_h Z T ab k)) (hk : k < 10) : (px_bind (hs_isUnsaidOf (h 22 6) (nI k) h) fun z1 h2 => if z1 = 0 then wk_startOnLeft_h_65 r26 (nI k) h2 else px_bind (wu_at 34 (nI k) h2) fun z3 h4 => if z3 ≤ 0 then wk_startOnLeft_h_65 r26 (nI k) h4 else wk_startOnLeft_h_66 r26 (nI k) (px_c 1) h4) = r26 (nI (k + 1)) (px_w (px_w h 33 11 (B_set (Z_us Z T ab) (k + 1))) 33 12 (nI (Z_lgs_h Z T ab (k + 1)))) := by
  have h10 := W.2.1
  have hS : S_un S T ab (nI k) = (decide (k < T) && (B_bit ab (B_n (Z 6 k)) && decide (Z 8 k = 0))) := by
    unfold S_un
    rw [B_is_nI (by omega), B_n_nI (by omega), hZ 6 _ (by decide), hZ 8 _ (by decide)]
  have hno : ¬ Z_us Z T ab k = true → wk_startOnLeft_h_65 r26 (nI k) h = r26 (nI (k + 1)) (px_w (px_w h 33 11 (B_set (Z_us Z T ab) (k + 1))) 33 12 (nI (Z_lgs_h Z T ab (k + 1)))) := by
    intro c
    have e1 : B_set (Z_us Z T ab) (k + 1) = h 33 11 ||| 0 := by rw [B_set_snoc_h, if_neg c, k11]
    have e2 : Z_lgs_h Z T ab (k + 1) = Z_lgs_h Z T ab k := by
      unfold Z_lgs_h
      rw [B_fold_snoc_h]
      exact if_neg c
    unfold wk_startOnLeft_h_65 wk_startOnLeft_h_66
    rw [bc_0, if_pos rfl]
    unfold wk_startOnLeft_h_83
    dsimp only
    rw [if_pos rfl]
    unfold wk_startOnLeft_h_114
    dsimp only
    rw [B_w_at, if_neg (by decide), k12, bc_1, nI_add, e1, e2]
  rw [h6, hs_isUnsaidOf_s _ _ R WS, B_bind, hS]
  cases hq : (decide (k < T) && (B_bit ab (B_n (Z 6 k)) && decide (Z 8 k = 0))) with
  | false =>
    rw [if_pos (show B_01 false = 0 from rfl)]
    exact hno (by unfold Z_us; rw [hq]; simp)
  | true =>
    have hkT : k < T := by
      simp only [Bool.and_eq_true, decide_eq_true_eq] at hq
      exact hq.1
    have hL := B_lt_n (by omega) (W.2.2.2.2.2.2.2.2.1 k hkT)
    rw [if_neg (by decide), wa_34 (by omega), B_bind, e26 k hkT]
    by_cases c : Z 4 k = 0
    · rw [c, if_pos (by decide)]
      exact hno (by unfold Z_us; rw [hq, c]; simp)
    · have cu : Z_us Z T ab k = true := by
        unfold Z_us
        rw [hq]
        simp [c]
      have hL0 : B_n (Z 4 k) ≠ 0 := fun w => c (by rw [hL.2, w, nI_0])
      have e1 : B_set (Z_us Z T ab) (k + 1) = h 33 11 ||| (nI 1 <<< (nI k &&& 31)) := by rw [B_set_snoc_h, if_pos cu, k11]
      have e2 : Z_lgs_h Z T ab (k + 1) = max (Z_lgs_h Z T ab k) (B_n (Z 4 k)) := by
        unfold Z_lgs_h
        rw [B_fold_snoc_h]
        exact if_pos cu
      have e3 := Z_lgs_h_le (ab := ab) W k
      rw [if_neg (fun w => by rw [hL.2, bn_le0 (by omega)] at w; exact hL0 w)]
      unfold wk_startOnLeft_h_66
      rw [bc_1, if_neg (by decide)]
      unfold wk_startOnLeft_h_83
      dsimp only
      rw [if_neg (by decide), wa_34 (by omega), B_bind, B_w_at, if_neg (by decide), k12, B_w_cell _ _ _ (show (34 : Nat) ≠ 33 by decide), e26 k hkT]
      conv => lhs; rw [hL.2]
      rw [px_max_nI_h (by omega) (by omega)]
      unfold wk_startOnLeft_h_114
      dsimp only
      rw [bc_1, nI_add, e1, e2]
theorem wk_startOnLeft_h_s {l : Nat} (hl : l ≤ 4) (hZ : ∀ i k, i ≠ 4 → Z i k = S i k) (WS : R_w P T K Y S) (W : R_w P T K Y Z) (R : R_c h P T K Y S) (h6 : h 22 6 = ab) (e26 : ∀ t, t < T → h 34 t = Z 4 t) : ∃ h', wk_startOnLeft_h (nI l) h = some (0, h') ∧ Wk_h h' Z T D ev ab (Z_lg Z T ab) l [] 0 ∧ B_fr E_n_h h h' := by
  have H : ∀ (j k n : Nat) (g : pH), k + j = 10 → j < n → B_fr E_n_h h g → g 33 9 = nI 0 → g 33 10 = nI l → g 33 11 = B_set (Z_us Z T ab) k → g 33 12 = nI (Z_lgs_h Z T ab k) → ∃ h', wk_startOnLeft_h_26 n (nI k) g = some (0, h') ∧ Wk_h h' Z T D ev ab (Z_lg Z T ab) l [] 0 ∧ B_fr E_n_h h h' := by
    intro j
    induction j with
    | zero =>
      intro k n g hk hn F g9 g10 g11 g12
      obtain ⟨n, rfl⟩ : ∃ n', n = n' + 1 := ⟨n - 1, by omega⟩
      have e : k = 10 := by omega
      subst e
      refine ⟨g, ?_, ⟨g9, g10, ?_, g12, fun t ht => by rw [F 34 t rfl]; exact e26 t ht, fun i hi => by simp at hi, fun i hi => by omega⟩, F⟩
      · show (if px_c 10 ≤ nI 10 then _ else _) = _
        rw [bc_10, if_pos (nI_le (by omega) (by omega))]
      · rw [g11]
        refine B_set_eq (fun i _ => ?_)
        unfold Z_ok
        simp
    | succ j ih =>
      intro k n g hk hn F g9 g10 g11 g12
      obtain ⟨n, rfl⟩ : ∃ n', n = n' + 1 := ⟨n - 1, by omega⟩
      have st := wk_startOnLeft_h_step (r26 := wk_startOnLeft_h_26 n) hZ WS W (R.sm (F.mono E_n_sc_h).sm_c) (by rw [F 22 6 rfl, h6]) (fun t ht => by rw [F 34 t rfl]; exact e26 t ht) g11 g12 (show k < 10 by omega)
      have e : wk_startOnLeft_h_26 (n + 1) (nI k) g = wk_startOnLeft_h_26 n (nI (k + 1)) (px_w (px_w g 33 11 (B_set (Z_us Z T ab) (k + 1))) 33 12 (nI (Z_lgs_h Z T ab (k + 1)))) := by
        rw [← st]
        show (if px_c 10 ≤ nI k then _ else _) = _
        rw [bc_10, if_neg (nI_ge (by omega) (by omega))]
      rw [e]
      refine ih (k + 1) n _ (by omega) (by omega) ((F.w rfl).w rfl) ?_ ?_ ?_ (B_w_same _ _ _ _)
      · rw [B_w_at, if_neg (by decide), B_w_at, if_neg (by decide)]; exact g9
      · rw [B_w_at, if_neg (by decide), B_w_at, if_neg (by decide)]; exact g10
      · rw [B_w_at, if_neg (by decide), B_w_same]
  unfold wk_startOnLeft_h
  rw [bc_4, px_min_nI (by omega) (by omega), Nat.min_eq_left hl, bc_0]
  dsimp only
  have := H 10 0 px_F (px_w (px_w (px_w (px_w h 33 10 (nI l)) 33 9 0) 33 11 0) 33 12 0) rfl (px_F_lt (by omega)) (((((B_fr.refl _ _).w rfl).w rfl).w rfl).w rfl) (by rw [B_w_at, if_neg (by decide), B_w_at, if_neg (by decide), B_w_same, nI_0]) (by rw [B_w_at, if_neg (by decide), B_w_at, if_neg (by decide), B_w_at, if_neg (by decide), B_w_same]) (by rw [B_w_at, if_neg (by decide), B_w_same]; rfl) (by rw [B_w_same]; exact nI_0.symm)
  rw [nI_0] at this
  exact this
theorem wk_find_h {l : Nat} (hl : l ≤ 4) (hZ : ∀ i k, i ≠ 4 → Z i k = S i k) (WS : R_w P T K Y S) (W : R_w P T K Y Z) (hD : D ≤ 60) (C : C_h h P T K Y S ev) (h6 : h 22 6 = ab) (h9 : h 22 9 = nI D) (k : Wk_h h Z T D ev ab (Z_lg Z T ab) l [] 0) : ∃ h', wk_findShortest_h h = some (nI (Z_sh ev Z T D ab l).length, h') ∧ B_fr E_w_h h h' ∧ (Z_sh ev Z T D ab l).length ≤ 4 ∧ ∀ j, j < (Z_sh ev Z T D ab l).length → h' 36 j = nI ((Z_sh ev Z T D ab l).getD j 0) := by
  obtain ⟨x, x1, x2⟩ := Z_walk (ev := ev) (Z := Z) (ab := ab) (D := D) W.2.1 l hl
  have h12 : 12000 < px_F := px_F_lt (by omega)
  obtain ⟨h', y1, y2, y3, y4⟩ := wk_findShortest_h_sim (lg := Z_lg Z T ab) hZ WS W hD (Z_lg_le W) 12000 [] [] l 0 px_F true h x x1 hl Z_v.nil C h6 h9 k (fun _ => k) (by show 0 ≤ 4; omega) (fun j hj => by simp at hj) (by omega) (by omega)
  rw [x2] at y1 y3 y4
  refine ⟨h', ?_, y2, y3, y4⟩
  unfold wk_findShortest_h
  rw [bc_0, bc_1]
  rw [show nI ([] : List Nat).length = 0 from nI_0, show B_01 true = nI 1 from rfl, nI_0] at y1
  exact y1
end WALK_h
