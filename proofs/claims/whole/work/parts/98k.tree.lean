/-! Layer B: walks over rows: the pure picture -/
theorem B_first_lt (q : Nat → Bool) : ∀ m k, B_first q k m < k + m → q (B_first q k m) = true := by
  intro m
  induction m with
  | zero =>
    intro k h
    exact absurd h (Nat.lt_irrefl _)
  | succ m ih =>
    intro k h
    unfold B_first at h ⊢
    by_cases c : q k = true
    · rw [if_pos c]
      exact c
    · rw [if_neg c] at h ⊢
      exact ih (k + 1) (by omega)
def N_nf (ok : List Nat → Nat → Bool) (r : List Nat) (f : Nat) : Nat := B_first (ok r) f (10 - f)
theorem N_nf_ge (ok : List Nat → Nat → Bool) (r : List Nat) (f : Nat) : f ≤ N_nf ok r f := (B_first_le _ _ _).1
theorem N_nf_ok {ok : List Nat → Nat → Bool} {r : List Nat} {f : Nat} (h : N_nf ok r f < 10) : ok r (N_nf ok r f) = true := by
  have h1 := N_nf_ge ok r f
  exact B_first_lt _ _ _ (by show N_nf ok r f < _; omega)
theorem N_nf_hit {ok : List Nat → Nat → Bool} {r : List Nat} {f : Nat} (hf : f < 10) (h : ok r f = true) : N_nf ok r f = f := by
  unfold N_nf
  rw [show 10 - f = (10 - (f + 1)) + 1 by omega]
  unfold B_first
  rw [if_pos h]
theorem N_nf_miss {ok : List Nat → Nat → Bool} {r : List Nat} {f : Nat} (hf : f < 10) (h : ¬ ok r f = true) : N_nf ok r f = N_nf ok r (f + 1) := by
  unfold N_nf
  rw [show 10 - f = (10 - (f + 1)) + 1 by omega]
  conv => lhs; unfold B_first
  rw [if_neg h]
def N_up (ok : List Nat → Nat → Bool) (m : Nat) : Nat → List Nat → Nat → Option (List Nat)
  | 0, _, _ => none
  | n + 1, r, f => if r.length < m ∧ N_nf ok r f < 10 then some (r ++ [N_nf ok r f]) else match r.getLast? with
    | none => none
    | some t => N_up ok m n r.dropLast (t + 1)
def N_u (ok : List Nat → Nat → Bool) (m : Nat) (r : List Nat) (f : Nat) : Option (List Nat) := N_up ok m (r.length + 1) r f
def N_d (ok : List Nat → Nat → Bool) (m : Nat) (r : List Nat) : Option (List Nat) := match r.getLast? with
  | none => none
  | some t => N_u ok m r.dropLast (t + 1)
theorem N_u_c {ok : List Nat → Nat → Bool} {m : Nat} {r : List Nat} {f : Nat} (h : r.length < m ∧ N_nf ok r f < 10) : N_u ok m r f = some (r ++ [N_nf ok r f]) := if_pos h
theorem N_d_nil (ok : List Nat → Nat → Bool) (m : Nat) : N_d ok m [] = none := rfl
theorem N_d_app (ok : List Nat → Nat → Bool) (m : Nat) (r : List Nat) (t : Nat) : N_d ok m (r ++ [t]) = N_u ok m r (t + 1) := by
  unfold N_d
  rw [List.getLast?_concat]
  dsimp only
  rw [List.dropLast_concat]
theorem N_u_d {ok : List Nat → Nat → Bool} {m : Nat} {r : List Nat} {f : Nat} (h : ¬ (r.length < m ∧ N_nf ok r f < 10)) : N_u ok m r f = N_d ok m r := by
  have e : N_u ok m r f = match r.getLast? with
    | none => none
    | some t => N_up ok m r.length r.dropLast (t + 1) := if_neg h
  rw [e]
  unfold N_d
  rcases List.eq_nil_or_concat r with rfl | ⟨r0, t, rfl⟩
  · rfl
  · rw [List.concat_eq_append, List.getLast?_concat]
    dsimp only
    rw [List.dropLast_concat]
    unfold N_u
    rw [List.length_append, List.length_singleton]
theorem N_u_miss {ok : List Nat → Nat → Bool} {m : Nat} {r : List Nat} {f : Nat} (hf : f < 10) (h : ¬ (r.length < m ∧ ok r f = true)) : N_u ok m r f = N_u ok m r (f + 1) := by
  by_cases hl : r.length < m
  · have e := N_nf_miss hf (fun q => h ⟨hl, q⟩)
    by_cases q : N_nf ok r f < 10
    · rw [N_u_c ⟨hl, q⟩, N_u_c ⟨hl, by rw [← e]; exact q⟩, e]
    · rw [N_u_d (fun w => q w.2), N_u_d (fun w => q (by rw [e]; exact w.2))]
  · rw [N_u_d (fun w => hl w.1), N_u_d (fun w => hl w.1)]
section TREE
variable {α : Type} (ok : List Nat → Nat → Bool) (M : α → Nat) (rc : α → List Nat → Bool) (bd : List Nat → α → α) (dp : List Nat → Bool)
def N_x (ok : List Nat → Nat → Bool) (m : Nat) (c : Bool) (r : List Nat) (d : Bool) : Option (List Nat) := if d = true ∧ r.length < m ∧ c = true then N_u ok m r 0 else N_d ok m r
def W_l : Nat → Option (List Nat) → α → Option α
  | 0, _, _ => none
  | _ + 1, none, a => some a
  | n + 1, some r, a => W_l n (N_x ok (M (bd r a)) (rc (bd r a) r) r (dp r)) (bd r a)
def W_s (v : List Nat → α → α) (r : List Nat) (t : Nat) (a : α) : α := if r.length < M a ∧ ok r t = true then (if dp (r ++ [t]) = true ∧ rc (bd (r ++ [t]) a) (r ++ [t]) = true then v (r ++ [t]) (bd (r ++ [t]) a) else bd (r ++ [t]) a) else a
def W_v : Nat → List Nat → α → α
  | 0, _, a => a
  | d + 1, r, a => B_fold (W_s ok M rc bd dp (W_v d) r) 0 10 a
def W_c : Nat → Nat
  | 0 => 0
  | d + 1 => 10 * (W_c d + 1)
theorem W_fold_stop (v : List Nat → α → α) (r : List Nat) (a : α) (h : ¬ r.length < M a) : ∀ m f, B_fold (W_s ok M rc bd dp v r) f m a = a := by
  intro m
  induction m with
  | zero => intro f; rfl
  | succ m ih =>
    intro f
    show B_fold _ (f + 1) m (W_s ok M rc bd dp v r f a) = a
    have : W_s ok M rc bd dp v r f a = a := if_neg (fun q => h q.1)
    rw [this]
    exact ih (f + 1)
theorem W_v_stop (d : Nat) (r : List Nat) (a : α) (h : ¬ r.length < M a) : W_v ok M rc bd dp d r a = a := by
  cases d with
  | zero => rfl
  | succ d => exact W_fold_stop ok M rc bd dp _ r a h 10 0
theorem W_tree (hM : ∀ a, M a ≤ 4) : ∀ (d m f : Nat) (r : List Nat) (n : Nat) (a : α), r.length + d + 1 = 4 → f + m = 10 → m * (W_c d + 1) ≤ n → ∃ n', n ≤ n' + m * (W_c d + 1) ∧ W_l ok M rc bd dp n (N_u ok (M a) r f) a = W_l ok M rc bd dp n' (N_d ok (M (B_fold (W_s ok M rc bd dp (W_v ok M rc bd dp d) r) f m a)) r) (B_fold (W_s ok M rc bd dp (W_v ok M rc bd dp d) r) f m a) := by
  intro d
  induction d with
  | zero =>
    intro m
    induction m with
    | zero =>
      intro f r n a hr hf hn
      refine ⟨n, Nat.le_add_right _ _, ?_⟩
      rw [N_u_d (fun w => by have := N_nf_ge ok r f; omega)]
      rfl
    | succ m ih =>
      intro f r n a hr hf hn
      rw [Nat.succ_mul] at hn
      by_cases c : r.length < M a ∧ ok r f = true
      · obtain ⟨n, rfl⟩ : ∃ n', n = n' + 1 := ⟨n - 1, by omega⟩
        have e1 := N_nf_hit (show f < 10 by omega) c.2
        have e2 : N_u ok (M a) r f = some (r ++ [f]) := by
          rw [N_u_c ⟨c.1, by omega⟩, e1]
        have hl : ¬ (r ++ [f]).length < M (bd (r ++ [f]) a) := by
          have := hM (bd (r ++ [f]) a)
          rw [List.length_append, List.length_singleton]
          omega
        have e3 : W_s ok M rc bd dp (W_v ok M rc bd dp 0) r f a = bd (r ++ [f]) a := by
          unfold W_s
          rw [if_pos c]
          split
          · rfl
          · rfl
        have e4 : W_l ok M rc bd dp (n + 1) (some (r ++ [f])) a = W_l ok M rc bd dp n (N_u ok (M (bd (r ++ [f]) a)) r (f + 1)) (bd (r ++ [f]) a) := by
          show W_l ok M rc bd dp n (N_x ok _ _ _ _) _ = _
          unfold N_x
          rw [if_neg (fun w => hl w.2.1), N_d_app]
        obtain ⟨n', h1, h2⟩ := ih (f + 1) r n (bd (r ++ [f]) a) hr (by omega) (by omega)
        refine ⟨n', by rw [Nat.succ_mul]; omega, ?_⟩
        rw [e2, e4, h2]
        show _ = W_l ok M rc bd dp n' (N_d ok (M (B_fold _ (f + 1) m (W_s ok M rc bd dp (W_v ok M rc bd dp 0) r f a))) r) (B_fold _ (f + 1) m (W_s ok M rc bd dp (W_v ok M rc bd dp 0) r f a))
        rw [e3]
      · have e3 : W_s ok M rc bd dp (W_v ok M rc bd dp 0) r f a = a := if_neg c
        obtain ⟨n', h1, h2⟩ := ih (f + 1) r n a hr (by omega) (by omega)
        refine ⟨n', by rw [Nat.succ_mul]; omega, ?_⟩
        rw [N_u_miss (show f < 10 by omega) c, h2]
        show _ = W_l ok M rc bd dp n' (N_d ok (M (B_fold _ (f + 1) m (W_s ok M rc bd dp (W_v ok M rc bd dp 0) r f a))) r) (B_fold _ (f + 1) m (W_s ok M rc bd dp (W_v ok M rc bd dp 0) r f a))
        rw [e3]
  | succ d ihd =>
    intro m
    induction m with
    | zero =>
      intro f r n a hr hf hn
      refine ⟨n, Nat.le_add_right _ _, ?_⟩
      rw [N_u_d (fun w => by have := N_nf_ge ok r f; omega)]
      rfl
    | succ m ih =>
      intro f r n a hr hf hn
      rw [Nat.succ_mul] at hn
      by_cases c : r.length < M a ∧ ok r f = true
      · obtain ⟨n, rfl⟩ : ∃ n', n = n' + 1 := ⟨n - 1, by omega⟩
        have e1 := N_nf_hit (show f < 10 by omega) c.2
        have e2 : N_u ok (M a) r f = some (r ++ [f]) := by
          rw [N_u_c ⟨c.1, by omega⟩, e1]
        by_cases q : dp (r ++ [f]) = true ∧ (r ++ [f]).length < M (bd (r ++ [f]) a) ∧ rc (bd (r ++ [f]) a) (r ++ [f]) = true
        · have e3 : W_s ok M rc bd dp (W_v ok M rc bd dp (d + 1)) r f a = W_v ok M rc bd dp (d + 1) (r ++ [f]) (bd (r ++ [f]) a) := by
            unfold W_s
            rw [if_pos c, if_pos ⟨q.1, q.2.2⟩]
          have e4 : W_l ok M rc bd dp (n + 1) (some (r ++ [f])) a = W_l ok M rc bd dp n (N_u ok (M (bd (r ++ [f]) a)) (r ++ [f]) 0) (bd (r ++ [f]) a) := by
            show W_l ok M rc bd dp n (N_x ok _ _ _ _) _ = _
            unfold N_x
            rw [if_pos q]
          have hc : W_c (d + 1) = 10 * (W_c d + 1) := rfl
          obtain ⟨n2, g1, g2⟩ := ihd 10 0 (r ++ [f]) n (bd (r ++ [f]) a) (by rw [List.length_append, List.length_singleton]; omega) rfl (by omega)
          rw [N_d_app] at g2
          have g3 : B_fold (W_s ok M rc bd dp (W_v ok M rc bd dp d) (r ++ [f])) 0 10 (bd (r ++ [f]) a) = W_v ok M rc bd dp (d + 1) (r ++ [f]) (bd (r ++ [f]) a) := rfl
          rw [g3, ← e3] at g2
          obtain ⟨n', h1, h2⟩ := ih (f + 1) r n2 (W_s ok M rc bd dp (W_v ok M rc bd dp (d + 1)) r f a) hr (by omega) (by omega)
          refine ⟨n', by rw [Nat.succ_mul]; omega, ?_⟩
          rw [e2, e4, g2, h2]
          rfl
        · have e3 : W_s ok M rc bd dp (W_v ok M rc bd dp (d + 1)) r f a = bd (r ++ [f]) a := by
            unfold W_s
            rw [if_pos c]
            split
            · rename_i w
              exact W_v_stop ok M rc bd dp (d + 1) _ _ (fun w2 => q ⟨w.1, w2, w.2⟩)
            · rfl
          have e4 : W_l ok M rc bd dp (n + 1) (some (r ++ [f])) a = W_l ok M rc bd dp n (N_u ok (M (bd (r ++ [f]) a)) r (f + 1)) (bd (r ++ [f]) a) := by
            show W_l ok M rc bd dp n (N_x ok _ _ _ _) _ = _
            unfold N_x
            rw [if_neg q, N_d_app]
          obtain ⟨n', h1, h2⟩ := ih (f + 1) r n (bd (r ++ [f]) a) hr (by omega) (by omega)
          refine ⟨n', by rw [Nat.succ_mul]; omega, ?_⟩
          rw [e2, e4, h2]
          show _ = W_l ok M rc bd dp n' (N_d ok (M (B_fold _ (f + 1) m (W_s ok M rc bd dp (W_v ok M rc bd dp (d + 1)) r f a))) r) (B_fold _ (f + 1) m (W_s ok M rc bd dp (W_v ok M rc bd dp (d + 1)) r f a))
          rw [e3]
      · have e3 : W_s ok M rc bd dp (W_v ok M rc bd dp (d + 1)) r f a = a := if_neg c
        obtain ⟨n', h1, h2⟩ := ih (f + 1) r n a hr (by omega) (by omega)
        refine ⟨n', by rw [Nat.succ_mul]; omega, ?_⟩
        rw [N_u_miss (show f < 10 by omega) c, h2]
        show _ = W_l ok M rc bd dp n' (N_d ok (M (B_fold _ (f + 1) m (W_s ok M rc bd dp (W_v ok M rc bd dp (d + 1)) r f a))) r) (B_fold _ (f + 1) m (W_s ok M rc bd dp (W_v ok M rc bd dp (d + 1)) r f a))
        rw [e3]
theorem W_end (hM : ∀ a, M a ≤ 4) (a : α) : W_l ok M rc bd dp 12000 (N_x ok (M a) (rc a []) [] true) a = some (if rc a [] = true then W_v ok M rc bd dp 4 [] a else a) := by
  unfold N_x
  by_cases h : 0 < M a ∧ rc a [] = true
  · rw [if_pos ⟨rfl, h⟩, if_pos h.2]
    obtain ⟨n', h1, h2⟩ := W_tree ok M rc bd dp hM 3 10 0 [] 12000 a rfl rfl (by decide)
    rw [h2, N_d_nil]
    have : W_c 3 = 1110 := rfl
    obtain ⟨n', rfl⟩ : ∃ n2, n' = n2 + 1 := ⟨n' - 1, by omega⟩
    rfl
  · rw [if_neg (fun w => h w.2), N_d_nil]
    show some a = _
    by_cases c : rc a [] = true
    · rw [if_pos c, W_v_stop ok M rc bd dp 4 [] a (fun w => h ⟨w, c⟩)]
    · rw [if_neg c]
end TREE
/-! The first of some -/
def L_fst {β : Type} (q : Nat → Option β) : Nat → Nat → Option β
  | _, 0 => none
  | k, m + 1 => match q k with
    | some x => some x
    | none => L_fst q (k + 1) m
theorem L_fst_none {β : Type} {q : Nat → Option β} : ∀ m k, (∀ j, k ≤ j → j < k + m → q j = none) → L_fst q k m = none := by
  intro m
  induction m with
  | zero => intro k _; rfl
  | succ m ih =>
    intro k h
    unfold L_fst
    rw [h k (Nat.le_refl _) (by omega)]
    exact ih (k + 1) (fun j h1 h2 => h j (by omega) (by omega))
theorem L_fst_none_all {β : Type} {q : Nat → Option β} : ∀ m k, L_fst q k m = none → ∀ j, k ≤ j → j < k + m → q j = none := by
  intro m
  induction m with
  | zero => intro k _ j h1 h2; omega
  | succ m ih =>
    intro k h j h1 h2
    unfold L_fst at h
    cases hq : q k with
    | some x => rw [hq] at h; cases h
    | none =>
      rw [hq] at h
      by_cases e : j = k
      · rw [e]; exact hq
      · exact ih (k + 1) h j (by omega) (by omega)
theorem L_fst_eq {β : Type} {p q : Nat → Option β} : ∀ m k, (∀ j, k ≤ j → j < k + m → p j = q j) → L_fst p k m = L_fst q k m := by
  intro m
  induction m with
  | zero => intro k _; rfl
  | succ m ih =>
    intro k h
    unfold L_fst
    rw [h k (Nat.le_refl _) (by omega), ih (k + 1) (fun j h1 h2 => h j (by omega) (by omega))]
theorem L_fst_some {β : Type} {q : Nat → Option β} {x : β} : ∀ m k, L_fst q k m = some x → ∃ j, k ≤ j ∧ j < k + m ∧ q j = some x ∧ ∀ i, k ≤ i → i < j → q i = none := by
  intro m
  induction m with
  | zero => intro k h; cases h
  | succ m ih =>
    intro k h
    unfold L_fst at h
    cases hq : q k with
    | some y =>
      rw [hq] at h
      exact ⟨k, Nat.le_refl _, by omega, by rw [hq]; exact h, fun i h1 h2 => by omega⟩
    | none =>
      rw [hq] at h
      obtain ⟨j, h1, h2, h3, h4⟩ := ih (k + 1) h
      refine ⟨j, by omega, by omega, h3, fun i g1 g2 => ?_⟩
      by_cases e : i = k
      · rw [e]; exact hq
      · exact h4 i (by omega) g2
theorem L_fst_at {β : Type} {q : Nat → Option β} {x : β} {j : Nat} : ∀ m k, k ≤ j → j < k + m → q j = some x → (∀ i, k ≤ i → i < j → q i = none) → L_fst q k m = some x := by
  intro m
  induction m with
  | zero => intro k h1 h2; omega
  | succ m ih =>
    intro k h1 h2 hq hi
    unfold L_fst
    by_cases e : j = k
    · rw [← e, hq]
    · rw [hi k (Nat.le_refl _) (by omega)]
      exact ih (k + 1) (by omega) (by omega) hq (fun i g1 g2 => hi i (by omega) g2)
section SHORT
variable (ok : List Nat → Nat → Bool) (ov : List Nat → Bool)
/-- the first row that goes on from r by n things and comes over -/
def F_x : Nat → List Nat → Option (List Nat)
  | 0, r => if ov r = true then some r else none
  | n + 1, r => L_fst (fun t => if ok r t = true then F_x n (r ++ [t]) else none) 0 10
def F_f (n : Nat) (r : List Nat) (f j : Nat) : Option (List Nat) := L_fst (fun t => if ok r t = true then F_x ok ov n (r ++ [t]) else none) f j
/-- the first of the shortest, of at most m things -/
def F_s (m : Nat) : List Nat := (L_fst (fun n => F_x ok ov (n + 1) []) 0 m).getD []
variable {ok ov}
theorem F_x_len : ∀ n r r', F_x ok ov n r = some r' → r'.length = r.length + n := by
  intro n
  induction n with
  | zero =>
    intro r r' h
    unfold F_x at h
    split at h
    · cases h
      rfl
    · cases h
  | succ n ih =>
    intro r r' h
    obtain ⟨t, _, _, h3, _⟩ := L_fst_some 10 0 h
    split at h3
    · have := ih _ _ h3
      rw [List.length_append, List.length_singleton] at this
      omega
    · cases h3
theorem F_f_miss {n : Nat} {r : List Nat} {f j : Nat} (h : (if ok r f = true then F_x ok ov n (r ++ [f]) else none) = none) : F_f ok ov n r f (j + 1) = F_f ok ov n r (f + 1) j := by
  unfold F_f
  conv => lhs; unfold L_fst
  rw [h]
theorem F_f_hit {n : Nat} {r x : List Nat} {f j : Nat} (h : (if ok r f = true then F_x ok ov n (r ++ [f]) else none) = some x) : F_f ok ov n r f (j + 1) = some x := by
  unfold F_f L_fst
  rw [h]
def F_bd (ov : List Nat → Bool) (r : List Nat) (a : Nat × List Nat) : Nat × List Nat := if ov r = true then (r.length - 1, r) else a
def F_M (a : Nat × List Nat) : Nat := min a.1 4
theorem F_M_eq {a : Nat × List Nat} (h : a.1 ≤ 4) : F_M a = a.1 := Nat.min_eq_left h
def F_new (a : Nat × List Nat) : Option (List Nat) → Nat × List Nat
  | none => a
  | some r => (r.length - 1, r)
theorem W_short {rc : Nat × List Nat → List Nat → Bool} {dp : List Nat → Bool} (hd : ∀ r, ¬ dp r = true → ¬ ov r = true → ∀ n, F_x ok ov n r = none) (hr : ∀ (a : Nat × List Nat) r, ¬ rc a r = true → ∀ n, r.length + n ≤ F_M a → F_x ok ov n r = none) : ∀ (d : Nat) (r : List Nat) (a : Nat × List Nat), r.length + d = 4 → a.1 ≤ 4 → W_v ok F_M rc (F_bd ov) dp d r a = F_new a (L_fst (fun n => F_x ok ov (n + 1) r) 0 (a.1 - r.length)) := by
  intro d
  induction d with
  | zero =>
    intro r a hl ha
    rw [show a.1 - r.length = 0 by omega]
    rfl
  | succ d ihd =>
    intro r
    have H : ∀ (j f : Nat) (a : Nat × List Nat), f + j = 10 → r.length + (d + 1) = 4 → a.1 ≤ 4 → B_fold (W_s ok F_M rc (F_bd ov) dp (W_v ok F_M rc (F_bd ov) dp d) r) f j a = F_new a (L_fst (fun n => F_f ok ov n r f j) 0 (a.1 - r.length)) := by
      intro j
      induction j with
      | zero =>
        intro f a _ _ _
        have e0 : L_fst (fun n => F_f ok ov n r f 0) 0 (a.1 - r.length) = none := L_fst_none _ _ (fun _ _ _ => rfl)
        rw [e0]
        rfl
      | succ j ih =>
        intro f a hf hl ha
        show B_fold _ (f + 1) j (W_s ok F_M rc (F_bd ov) dp (W_v ok F_M rc (F_bd ov) dp d) r f a) = _
        have cM := F_M_eq ha
        by_cases c : r.length < F_M a ∧ ok r f = true
        · obtain ⟨m, hm⟩ : ∃ m, a.1 - r.length = m + 1 := ⟨a.1 - r.length - 1, by omega⟩
          have l1 : (r ++ [f]).length = r.length + 1 := by rw [List.length_append, List.length_singleton]
          by_cases o : ov (r ++ [f]) = true
          · have e1 : F_bd ov (r ++ [f]) a = (r.length, r ++ [f]) := by
              unfold F_bd
              rw [if_pos o, l1]
              rfl
            have e2 : W_s ok F_M rc (F_bd ov) dp (W_v ok F_M rc (F_bd ov) dp d) r f a = (r.length, r ++ [f]) := by
              unfold W_s
              rw [if_pos c, e1]
              split
              · exact W_v_stop _ _ _ _ _ d _ _ (by rw [l1]; show ¬ r.length + 1 < min r.length 4; omega)
              · rfl
            rw [e2, ih (f + 1) _ (by omega) hl (by show r.length ≤ 4; omega)]
            have e3 : (r.length, r ++ [f]).1 - r.length = 0 := Nat.sub_self _
            rw [e3, hm]
            have e4 : F_f ok ov 0 r f (j + 1) = some (r ++ [f]) := F_f_hit (by
              rw [if_pos c.2]
              unfold F_x
              rw [if_pos o])
            have e5 : L_fst (fun n => F_f ok ov n r f (j + 1)) 0 (m + 1) = some (r ++ [f]) := by
              unfold L_fst
              rw [e4]
            rw [e5]
            show (r.length, r ++ [f]) = ((r ++ [f]).length - 1, r ++ [f])
            rw [l1]
            rfl
          · have e1 : F_bd ov (r ++ [f]) a = a := if_neg o
            have z0 : F_x ok ov 0 (r ++ [f]) = none := by
              unfold F_x
              rw [if_neg o]
            have e2 : W_s ok F_M rc (F_bd ov) dp (W_v ok F_M rc (F_bd ov) dp d) r f a = F_new a (L_fst (fun n => F_x ok ov (n + 1) (r ++ [f])) 0 m) := by
              unfold W_s
              rw [if_pos c, e1]
              by_cases q : dp (r ++ [f]) = true ∧ rc a (r ++ [f]) = true
              · rw [if_pos q, ihd (r ++ [f]) a (by rw [l1]; omega) ha, l1, show a.1 - (r.length + 1) = m by omega]
              · rw [if_neg q, L_fst_none]
                · rfl
                · intro n _ hn
                  by_cases q1 : dp (r ++ [f]) = true
                  · exact hr a (r ++ [f]) (fun w => q ⟨q1, w⟩) _ (by rw [l1, cM]; omega)
                  · exact hd _ q1 o _
            rw [e2, hm]
            cases hB : L_fst (fun n => F_x ok ov (n + 1) (r ++ [f])) 0 m with
            | none =>
              have e3 := L_fst_none_all _ _ hB
              show B_fold _ (f + 1) j a = _
              rw [ih (f + 1) a (by omega) hl ha, hm]
              congr 1
              refine L_fst_eq _ _ (fun n _ hn => (F_f_miss ?_).symm)
              rw [if_pos c.2]
              cases n with
              | zero => exact z0
              | succ n => exact e3 n (by omega) (by omega)
            | some x =>
              obtain ⟨n0, _, g2, g3, g4⟩ := L_fst_some _ _ hB
              have lx := F_x_len _ _ _ g3
              rw [l1] at lx
              have ex : x.length - 1 = r.length + (n0 + 1) := by omega
              show B_fold _ (f + 1) j (x.length - 1, x) = _
              rw [ih (f + 1) _ (by omega) hl (by show x.length - 1 ≤ 4; omega)]
              have e3 : (x.length - 1, x).1 - r.length = n0 + 1 := by show x.length - 1 - r.length = _; omega
              rw [e3]
              have hmiss : ∀ n, n ≤ n0 → F_f ok ov n r f (j + 1) = F_f ok ov n r (f + 1) j := fun n hn => F_f_miss (by
                rw [if_pos c.2]
                cases n with
                | zero => exact z0
                | succ n => exact g4 n (by omega) (by omega))
              have hhit : F_f ok ov (n0 + 1) r f (j + 1) = some x := F_f_hit (by
                rw [if_pos c.2]
                exact g3)
              cases hA : L_fst (fun n => F_f ok ov n r (f + 1) j) 0 (n0 + 1) with
              | none =>
                have a3 := L_fst_none_all _ _ hA
                rw [L_fst_at (j := n0 + 1) (m + 1) 0 (by omega) (by omega) hhit (fun i _ hi => (hmiss i (by omega)).trans (a3 i (by omega) (by omega)))]
                rfl
              | some y =>
                obtain ⟨n1, _, b2, b3, b4⟩ := L_fst_some _ _ hA
                rw [L_fst_at (j := n1) (m + 1) 0 (by omega) (by omega) ((hmiss n1 (by omega)).trans b3) (fun i _ hi => (hmiss i (by omega)).trans (b4 i (by omega) hi))]
                rfl
        · have e2 : W_s ok F_M rc (F_bd ov) dp (W_v ok F_M rc (F_bd ov) dp d) r f a = a := if_neg c
          rw [e2, ih (f + 1) a (by omega) hl ha]
          congr 1
          refine L_fst_eq _ _ (fun n _ hn => (F_f_miss ?_).symm)
          exact if_neg (fun w => c ⟨by omega, w⟩)
    intro a hl ha
    exact H 10 0 a rfl hl ha
end SHORT
