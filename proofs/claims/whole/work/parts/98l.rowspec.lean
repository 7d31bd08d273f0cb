/-! Layer B: rows for a crossing: what can go on, what comes of them -/
def Z_us (Z : pH) (T : Nat) (ab : Int32) (t : Nat) : Bool := decide (t < T) && (B_bit ab (B_n (Z 6 t)) && decide (Z 8 t = 0)) && !decide (Z 4 t = 0)
def Z_ok (Z : pH) (T : Nat) (ab : Int32) (r : List Nat) (t : Nat) : Bool := Z_us Z T ab t && !(r.contains t)
noncomputable def Z_ov (ev : pE) (Z : pH) (D : Nat) (ab : Int32) (r : List Nat) : Bool := decide (D ≤ S_wds Z r) && decide ((S_go ev Z D ab r).2.1 = none)
noncomputable def Z_bu (ev : pE) (Z : pH) (D : Nat) (ab : Int32) (r : List Nat) : Bool := decide (D ≤ S_wds Z r) && !decide ((S_go ev Z D ab r).2.1 = none)
noncomputable def Z_dp (ev : pE) (Z : pH) (D : Nat) (ab : Int32) (r : List Nat) : Bool := decide (S_wds Z r < D) && decide ((S_go ev Z D ab r).2.1 = none)
def Z_rc (Z : pH) (D lg m : Nat) (r : List Nat) : Bool := decide (D ≤ S_wds Z r + (m - r.length) * lg)
def Z_lg (Z : pH) (T : Nat) (ab : Int32) : Nat := B_fold (fun t a => if Z_us Z T ab t = true then max a (B_n (Z 4 t)) else a) 0 10 0
def Z_v (Z : pH) (T : Nat) (ab : Int32) (r : List Nat) : Prop := r.length ≤ 4 ∧ r.Nodup ∧ ∀ t, t ∈ r → Z_us Z T ab t = true
section SPEC
variable {T D lg P K Y : Nat} {Z : pH} {ev : pE} {ab : Int32} {r : List Nat} {t : Nat}
theorem S_can_ok (ht : t < 2 ^ 31) : S_can Z T ab r (nI t) = Z_ok Z T ab r t := by
  unfold S_can S_un Z_ok Z_us
  rw [B_is_nI ht, B_n_nI ht]
theorem Z_us_lt (h : Z_us Z T ab t = true) : t < T := by
  unfold Z_us at h
  simp only [Bool.and_eq_true, decide_eq_true_eq] at h
  exact h.1.1
theorem S_go_app (r : List Nat) (t : Nat) : S_go ev Z D ab (r ++ [t]) = S_st ev Z D ab (S_go ev Z D ab r) t := by
  unfold S_go
  rw [List.foldl_append]
  rfl
theorem S_wds_app (r : List Nat) (t : Nat) : S_wds Z (r ++ [t]) = S_wds Z r + B_n (Z 4 t) := by
  unfold S_wds
  rw [List.map_append, List.sum_append]
  simp
theorem Z_stay {x : Nat} (h : (S_go ev Z D ab r).2.1 = some x) (t : Nat) : S_go ev Z D ab (r ++ [t]) = S_go ev Z D ab r := by
  rw [S_go_app]
  unfold S_st
  rw [h]
theorem Z_wds_le (W : R_w P T K Y Z) : ∀ r : List Nat, (∀ t, t ∈ r → t < T) → S_wds Z r ≤ 40 * r.length := by
  intro r
  induction r with
  | nil => intro _; exact Nat.le_refl _
  | cons t l ih =>
    intro h
    have h1 := ih (fun u hu => h u (List.mem_cons_of_mem _ hu))
    have h2 := B_lt_n (by omega) (W.2.2.2.2.2.2.2.2.1 t (h t List.mem_cons_self))
    unfold S_wds at h1 ⊢
    rw [List.map_cons, List.sum_cons, List.length_cons]
    omega
theorem Z_v.lt (h : Z_v Z T ab r) : ∀ t, t ∈ r → t < T := fun t ht => Z_us_lt (h.2.2 t ht)
theorem Z_v.r_in (h : Z_v Z T ab r) : r_in r T := fun k hk => by
  rw [List.getD_eq_getElem?_getD, List.getElem?_eq_getElem hk]
  exact h.lt _ (List.getElem_mem hk)
theorem Z_v.nil : Z_v Z T ab [] := ⟨by show 0 ≤ 4; omega, List.nodup_nil, fun t ht => by simp at ht⟩
theorem Z_v.pre (h : Z_v Z T ab (r ++ [t])) : Z_v Z T ab r ∧ Z_us Z T ab t = true ∧ t ∉ r := by
  obtain ⟨h1, h2, h3⟩ := h
  rw [List.length_append, List.length_singleton] at h1
  rw [List.nodup_append] at h2
  refine ⟨⟨by omega, h2.1, fun u hu => h3 u (List.mem_append.mpr (Or.inl hu))⟩, h3 t (List.mem_append.mpr (Or.inr (List.mem_singleton.mpr rfl))), fun q => h2.2.2 t q t (List.mem_singleton.mpr rfl) rfl⟩
theorem Z_ok_iff : Z_ok Z T ab r t = true ↔ Z_us Z T ab t = true ∧ t ∉ r := by
  unfold Z_ok
  rw [Bool.and_eq_true, Bool.not_eq_true', ← Bool.not_eq_true, List.contains_iff_mem]
theorem Z_v.app (h : Z_v Z T ab r) (hl : r.length < 4) (hk : Z_ok Z T ab r t = true) : Z_v Z T ab (r ++ [t]) := by
  obtain ⟨h1, h2, h3⟩ := h
  obtain ⟨k1, k2⟩ := Z_ok_iff.mp hk
  refine ⟨by rw [List.length_append, List.length_singleton]; omega, ?_, fun u hu => ?_⟩
  · rw [List.nodup_append]
    refine ⟨h2, by simp, fun a ha b hb e => k2 ?_⟩
    rw [List.mem_singleton] at hb
    rw [← hb, ← e]
    exact ha
  · rcases List.mem_append.mp hu with q | q
    · exact h3 u q
    · rw [List.mem_singleton.mp q]
      exact k1
theorem Z_none (W : R_w P T K Y Z) : ∀ (n : Nat) (r : List Nat), r.length = n → r.Nodup → (∀ t, t ∈ r → t < T) → (S_go ev Z D ab r).2.1 = none → (S_go ev Z D ab r).1 = min D (S_wds Z r) := by
  intro n
  induction n with
  | zero =>
    intro r hr _ _ _
    have : r = [] := List.length_eq_zero_iff.mp hr
    subst this
    show 0 = min D 0
    omega
  | succ n ih =>
    intro r hr hnd ht hn
    rcases List.eq_nil_or_concat r with rfl | ⟨r0, t, rfl⟩
    · cases hr
    · rw [List.concat_eq_append] at *
      rw [List.length_append, List.length_singleton] at hr
      rw [List.nodup_append] at hnd
      have hni : t ∉ r0 := fun q => hnd.2.2 t q t (List.mem_singleton.mpr rfl) rfl
      have h0 : (S_go ev Z D ab r0).2.1 = none := by
        cases q : (S_go ev Z D ab r0).2.1 with
        | none => rfl
        | some x => rw [Z_stay q, q] at hn; cases hn
      have i0 := ih r0 (by omega) hnd.1 (fun u hu => ht u (List.mem_append.mpr (Or.inl hu))) h0
      have e4 : (S_go ev Z D ab r0).2.2 4 t = Z 4 t := foldl_ne r0 (0, none, Z) 4 t (fun q => hni q.2)
      rw [S_go_app] at hn ⊢
      rw [S_wds_app]
      generalize S_go ev Z D ab r0 = x at *
      unfold S_st at hn ⊢
      rw [h0] at hn ⊢
      dsimp only at hn ⊢
      rw [e4] at hn ⊢
      have hle := (B_first_le (S_bu ev Z ab t (B_n (Z 4 t)) x.1) (min (B_n (Z 4 t)) (D - x.1)) 0).2
      by_cases q : B_first (S_bu ev Z ab t (B_n (Z 4 t)) x.1) 0 (min (B_n (Z 4 t)) (D - x.1)) < min (B_n (Z 4 t)) (D - x.1)
      · rw [if_pos q] at hn
        cases hn
      · omega
theorem Z_v.none (h : Z_v Z T ab r) (W : R_w P T K Y Z) (hn : (S_go ev Z D ab r).2.1 = none) : (S_go ev Z D ab r).1 = min D (S_wds Z r) := Z_none W r.length r rfl h.2.1 h.lt hn
theorem S_go_le (r : List Nat) : (S_go ev Z D ab r).1 ≤ D := foldl_le r (0, none, Z) (Nat.zero_le _)
theorem Z_hd : ∀ r, ¬ Z_dp ev Z D ab r = true → ¬ Z_ov ev Z D ab r = true → ∀ n, F_x (Z_ok Z T ab) (Z_ov ev Z D ab) n r = none := by
  have H : ∀ n r x, (S_go ev Z D ab r).2.1 = some x → F_x (Z_ok Z T ab) (Z_ov ev Z D ab) n r = none := by
    intro n
    induction n with
    | zero =>
      intro r x hx
      unfold F_x Z_ov
      rw [hx, if_neg (by simp)]
    | succ n ih =>
      intro r x hx
      unfold F_x
      refine L_fst_none _ _ (fun t _ _ => ?_)
      split
      · exact ih _ x (by rw [Z_stay hx]; exact hx)
      · rfl
  intro r h1 h2 n
  cases q : (S_go ev Z D ab r).2.1 with
  | some x => exact H n r x q
  | none =>
    exfalso
    unfold Z_dp at h1
    unfold Z_ov at h2
    rw [q] at h1 h2
    simp only [Bool.and_eq_true, decide_eq_true_eq, and_true] at h1 h2
    omega
theorem Z_hr (hlg : ∀ t, Z_us Z T ab t = true → B_n (Z 4 t) ≤ lg) (m : Nat) : ∀ n r, ¬ Z_rc Z D lg m r = true → r.length + n ≤ m → F_x (Z_ok Z T ab) (Z_ov ev Z D ab) n r = none := by
  intro n
  induction n with
  | zero =>
    intro r h hl
    unfold Z_rc at h
    rw [decide_eq_true_eq] at h
    unfold F_x Z_ov
    rw [decide_eq_false (show ¬ D ≤ S_wds Z r from fun q => h (by omega)), Bool.false_and, if_neg (by decide)]
  | succ n ih =>
    intro r h hl
    unfold F_x
    refine L_fst_none _ _ (fun t _ _ => ?_)
    split
    · rename_i q
      refine ih _ (fun w => h ?_) (by rw [List.length_append, List.length_singleton]; omega)
      unfold Z_rc at w ⊢
      rw [decide_eq_true_eq] at w ⊢
      rw [S_wds_app, List.length_append, List.length_singleton] at w
      have h1 := hlg t (Z_ok_iff.mp q).1
      obtain ⟨j, hj⟩ : ∃ j, m - r.length = j + 1 := ⟨m - r.length - 1, by omega⟩
      rw [show m - (r.length + 1) = j by omega] at w
      rw [hj, Nat.succ_mul]
      omega
    · rfl
theorem Z_lg_ge (h10 : T ≤ 10) : ∀ t, Z_us Z T ab t = true → B_n (Z 4 t) ≤ Z_lg Z T ab := by
  intro t ht
  have h1 := Z_us_lt ht
  have := B_fold_inv (g := fun t a => if Z_us Z T ab t = true then max a (B_n (Z 4 t)) else a) (I := fun k a => ∀ u, u < k → Z_us Z T ab u = true → B_n (Z 4 u) ≤ a) 10 0 0 (fun u hu => by omega) (fun j b _ _ hb u hu hus => by
    by_cases e : u = j
    · subst e
      rw [if_pos hus]
      omega
    · have := hb u (by omega) hus
      split
      · omega
      · exact this)
  exact this t (by omega) ht
theorem Z_lg_le (W : R_w P T K Y Z) : Z_lg Z T ab ≤ 40 := by
  have := B_fold_inv (g := fun t a => if Z_us Z T ab t = true then max a (B_n (Z 4 t)) else a) (I := fun k a => a ≤ 40) 10 0 0 (by omega) (fun j b _ _ hb => by
    split
    · rename_i q
      have := B_lt_n (by omega) (W.2.2.2.2.2.2.2.2.1 j (Z_us_lt q))
      omega
    · exact hb)
  exact this
/-- the first of the shortest rows that come over, of at most m things -/
noncomputable def Z_sh (ev : pE) (Z : pH) (T D : Nat) (ab : Int32) (m : Nat) : List Nat := F_s (Z_ok Z T ab) (Z_ov ev Z D ab) m
theorem Z_walk (h10 : T ≤ 10) (m : Nat) (hm : m ≤ 4) : ∃ x, W_l (Z_ok Z T ab) F_M (fun a r => Z_rc Z D (Z_lg Z T ab) (F_M a) r) (F_bd (Z_ov ev Z D ab)) (Z_dp ev Z D ab) 12000 (N_x (Z_ok Z T ab) m (Z_rc Z D (Z_lg Z T ab) m []) [] true) (m, []) = some x ∧ x.2 = Z_sh ev Z T D ab m := by
  have e1 := W_end (Z_ok Z T ab) F_M (fun a r => Z_rc Z D (Z_lg Z T ab) (F_M a) r) (F_bd (Z_ov ev Z D ab)) (Z_dp ev Z D ab) (fun a => Nat.min_le_right _ _) (m, [])
  rw [show F_M (m, []) = m from F_M_eq hm] at e1
  refine ⟨_, e1, ?_⟩
  by_cases c : Z_rc Z D (Z_lg Z T ab) m [] = true
  · rw [if_pos c, W_short (ov := Z_ov ev Z D ab) Z_hd (fun a r h n hn => Z_hr (Z_lg_ge h10) (F_M a) n r h hn) 4 [] (m, []) rfl hm]
    unfold Z_sh F_s
    show (F_new (m, []) (L_fst _ 0 m)).2 = _
    cases L_fst (fun n => F_x (Z_ok Z T ab) (Z_ov ev Z D ab) (n + 1) []) 0 m with
    | none => rfl
    | some x => rfl
  · rw [if_neg c]
    unfold Z_sh F_s
    rw [L_fst_none _ _ (fun n _ hn => Z_hr (Z_lg_ge h10) m (n + 1) [] c (by rw [List.length_nil]; omega))]
    rfl
end SPEC
section BITS
variable {T : Nat} {Z : pH} {ab : Int32} {r : List Nat} {t : Nat}
theorem Z_ok_app {j : Nat} (hj : j ≠ t) : Z_ok Z T ab (r ++ [t]) j = Z_ok Z T ab r j := by
  rw [Bool.eq_iff_iff, Z_ok_iff, Z_ok_iff, List.mem_append, List.mem_singleton]
  constructor
  · intro h
    exact ⟨h.1, fun q => h.2 (Or.inl q)⟩
  · intro h
    exact ⟨h.1, fun q => q.elim h.2 hj⟩
theorem Z_ok_same : Z_ok Z T ab (r ++ [t]) t = false := by
  cases q : Z_ok Z T ab (r ++ [t]) t with
  | false => rfl
  | true => exact absurd (List.mem_append.mpr (Or.inr (List.mem_singleton.mpr rfl))) (Z_ok_iff.mp q).2
theorem Z_bits_or (ht : t < 10) (hk : Z_ok Z T ab r t = true) : B_set (Z_ok Z T ab (r ++ [t])) 10 ||| (nI 1 <<< (nI t &&& 31)) = B_set (Z_ok Z T ab r) 10 := by
  refine B_ext fun j hj => ?_
  rw [B_bit_or, B_set_bit (by omega) hj, B_set_bit (by omega) hj, B_bit_sh (by omega) hj]
  by_cases e : j = t
  · subst e
    rw [Z_ok_same, hk]
    simp [ht]
  · rw [Z_ok_app e, decide_eq_false e]
    simp
theorem Z_bits_and (ht : t < 10) : B_set (Z_ok Z T ab r) 10 &&& ((nI 1 <<< (nI t &&& 31)) ^^^ -1) = B_set (Z_ok Z T ab (r ++ [t])) 10 := by
  refine B_ext fun j hj => ?_
  rw [B_bit_and, B_bit_not _ hj, B_set_bit (by omega) hj, B_set_bit (by omega) hj, B_bit_sh (by omega) hj]
  by_cases e : j = t
  · subst e
    rw [Z_ok_same]
    simp
  · rw [Z_ok_app e, decide_eq_false e]
    simp
theorem Z_getD_last (r : List Nat) (t : Nat) : (r ++ [t]).getD r.length 0 = t := by
  rw [B_getD_app2 r t (by rw [List.length_append, List.length_singleton]; omega), if_pos rfl]
theorem Z_getD_pre (r : List Nat) (t : Nat) {k : Nat} (hk : k < r.length) : (r ++ [t]).getD k 0 = r.getD k 0 := by
  rw [B_getD_app2 r t (by rw [List.length_append, List.length_singleton]; omega), if_neg (by omega)]
theorem Z_take_pre (r : List Nat) (t : Nat) {k : Nat} (hk : k < r.length) : (r ++ [t]).take (k + 1) = r.take (k + 1) := List.take_append_of_le_length (by omega)
theorem Z_take_last (r : List Nat) (t : Nat) : (r ++ [t]).take (r.length + 1) = r ++ [t] := List.take_of_length_le (by rw [List.length_append, List.length_singleton]; omega)
theorem S_bu_Z {S : pH} {ev : pE} (hZ : ∀ i k, i ≠ 4 → Z i k = S i k) (t L c : Nat) : S_bu ev S ab t L c = S_bu ev Z ab t L c := by
  funext k
  unfold S_bu S_ho S_P S_ab
  rw [hZ 0 _ (by decide), hZ 6 _ (by decide), hZ 5 _ (by decide), hZ 7 _ (by decide)]
theorem S_P_Z {S : pH} {ev : pE} (hZ : ∀ i k, i ≠ 4 → Z i k = S i k) (t : Nat) (k w y : Int32) : S_P ev S ab t k w y = S_P ev Z ab t k w y := by
  unfold S_P S_ab
  rw [hZ 6 _ (by decide), hZ 5 _ (by decide), hZ 7 _ (by decide)]
end BITS
