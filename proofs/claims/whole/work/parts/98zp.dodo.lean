/-! Layer B: day: an act is done -/
def S_tk (Z : pH) (T : Nat) (ab : Int32) : List Nat → List Nat → Bool
  | [], _ => true
  | t :: l, r => S_can Z T ab r (nI t) && S_tk Z T ab l (r ++ [t])
noncomputable def S_dX (ev : pE) (Z : pH) (Y : Nat) (a : dA) : Nat × Option Nat × pH := S_go ev Z (S_dist Z Y (B_n (Z 1 a.2.1)) a.2.2.2.1) (S_abd (nI a.2.1) a.2.2.1) a.2.2.2.2
noncomputable def S_do (ev : pE) (P T K Y : Nat) (Z : pH) (a : dA) : Option (pH × Nat) :=
  if a.1 = 99 then (if S_beg Z P (nI a.2.1) a.2.2.1 (nI a.2.2.2.1) = true ∧ S_tk Z T (S_abd (nI a.2.1) a.2.2.1) a.2.2.2.2 [] = true ∧ S_dist Z Y (B_n (Z 1 a.2.1)) a.2.2.2.1 ≤ S_wds Z a.2.2.2.2 then some (S_fin Z Y K (S_abd (nI a.2.1) a.2.2.1) (B_n (Z 1 a.2.1)) a.2.2.2.1 (S_dX ev Z Y a), if (S_dX ev Z Y a).2.1 = none then 0 else 1) else none)
  else if a.1 = 115 then (if 0 ≤ S_nsay Z P T (nI a.2.1) (nI a.2.2.2.1) then some (S_tl Z a.2.2.2.1 (S_hear Z P a.2.1 a.2.2.2.1), 0) else none)
  else if a.1 = 118 then (if 0 ≤ S_nsell Z P T (nI a.2.1) a.2.2.1 (nI a.2.2.2.1) then some (S_sold Z a.2.1 (B_n a.2.2.1) a.2.2.2.1, 0) else none)
  else (if 0 ≤ S_nwh Z P T (nI a.2.1) a.2.2.1 (nI a.2.2.2.1) then some (px_w Z 9 a.2.2.2.1 (Z 9 a.2.2.2.1 ||| (nI 1 <<< (a.2.2.1 &&& 31))), 0) else none)
section DODO
variable {h : pH} {P T K Y : Nat} {Z : pH} {ev : pE} {ab : Int32} {a : dA}
theorem S_tk_ok (W : R_w P T K Y Z) : ∀ (l r : List Nat), r_ok r T → r.length + l.length ≤ 6 → (∀ t, t ∈ l → t < 10) → S_tk Z T ab l r = true → r_ok (r ++ l) T := by
  intro l
  induction l with
  | nil =>
    intro r hr _ _ _
    rw [List.append_nil]
    exact hr
  | cons t l ih =>
    intro r hr hl h10l hq
    change (S_can Z T ab r (nI t) && S_tk Z T ab l (r ++ [t])) = true at hq
    rw [Bool.and_eq_true] at hq
    rw [List.length_cons] at hl
    obtain ⟨t', ht, e, hn, -, -⟩ := S_can_ex W hq.1
    have h10 := W.2.1
    have h10t := h10l t (List.mem_cons_self ..)
    have htt : t = t' := (nI_eq (by omega) (by omega)).mp e
    subst htt
    have := ih (r ++ [t]) (r_ok_app hr ht hn (by omega)) (by rw [List.length_append, List.length_singleton]; omega) (fun t ht => h10l t (List.mem_cons_of_mem _ ht)) hq.2
    rw [List.append_assoc] at this
    exact this
theorem d_mem (ha : d_ok a) : ∀ t, t ∈ a.2.2.2.2 → t < 10 := fun t ht => by
  obtain ⟨i, hi, e⟩ := List.mem_iff_getElem.mp ht
  have := ha.2.2.2.2.2.2 i hi
  rw [List.getD_eq_getElem?_getD, List.getElem?_eq_getElem hi] at this
  rw [← e]
  exact this
theorem S_do_c {b : Nat} {Z2 : pH} (hk : a.1 = 99) (ha : d_ok a) (W : R_w P T K Y Z) (e : S_do ev P T K Y Z a = some (Z2, b)) : ∃ f, f < 2 + K ∧ Z 1 a.2.1 = nI f ∧ a.2.1 < P ∧ a.2.2.2.1 < 2 ∧ r_ok a.2.2.2.2 T ∧ S_beg Z P (nI a.2.1) a.2.2.1 (nI a.2.2.2.1) = true ∧ S_tk Z T (S_abd (nI a.2.1) a.2.2.1) a.2.2.2.2 [] = true ∧ S_dist Z Y f a.2.2.2.1 ≤ S_wds Z a.2.2.2.2 ∧ S_dist Z Y f a.2.2.2.1 ≤ 60 ∧ S_dX ev Z Y a = S_go ev Z (S_dist Z Y f a.2.2.2.1) (S_abd (nI a.2.1) a.2.2.1) a.2.2.2.2 ∧ Z2 = S_fin Z Y K (S_abd (nI a.2.1) a.2.2.1) f a.2.2.2.1 (S_dX ev Z Y a) ∧ b = (if (S_dX ev Z Y a).2.1 = none then 0 else 1) := by
  have h6 := W.1
  have h5 := W.2.2.1
  unfold S_do at e
  rw [if_pos hk] at e
  by_cases q : S_beg Z P (nI a.2.1) a.2.2.1 (nI a.2.2.2.1) = true ∧ S_tk Z T (S_abd (nI a.2.1) a.2.2.1) a.2.2.2.2 [] = true ∧ S_dist Z Y (B_n (Z 1 a.2.1)) a.2.2.2.1 ≤ S_wds Z a.2.2.2.2
  · rw [if_pos q] at e
    obtain ⟨q1, q2, q3⟩ := q
    obtain ⟨p, b', f, hp, hb, hf, e1, e3, ef, hfb, -⟩ := S_beg_ex W q1
    have hp6 := ha.2.1
    have hb2 := ha.2.2.2.1 hk
    have e1' : a.2.1 = p := (nI_eq (by omega) (by omega)).mp e1
    rw [e1'] at q3
    have efn : B_n (Z 1 p) = f := by rw [ef, B_n_nI (by omega)]
    rw [efn] at q3
    have hD : S_dist Z Y f a.2.2.2.1 ≤ 60 := by
      have l1 := S_yd_le W hf
      have l2 := S_yd_le W (show a.2.2.2.1 < 2 + K by omega)
      unfold S_dist
      omega
    have hr := S_tk_ok W a.2.2.2.2 [] (r_ok_nil T) (by have := ha.2.2.2.2.2.1; simpa using this) (d_mem ha) q2
    cases e
    refine ⟨f, hf, by rw [e1', ef], by omega, hb2, by simpa using hr, q1, q2, q3, hD, ?_, ?_, rfl⟩
    · unfold S_dX
      rw [e1', efn]
    · rw [e1', efn]
  · rw [if_neg q] at e
    cases e
theorem S_do_W {b : Nat} {Z2 : pH} (ha : d_ok a) (W : R_w P T K Y Z) (e : S_do ev P T K Y Z a = some (Z2, b)) : R_w P T K Y Z2 ∧ (∀ i k, i ≠ 1 → i ≠ 2 → i ≠ 4 → i ≠ 6 → i ≠ 8 → i ≠ 9 → Z2 i k = Z i k) ∧ b ≤ 1 := by
  have h6 := W.1
  have h10 := W.2.1
  by_cases hk : a.1 = 99
  · obtain ⟨f, hf, ef, hp, hb, hr, q1, q2, q3, hD, eX, e2, eb⟩ := S_do_c hk ha W e
    refine ⟨?_, fun i k h1 h2 h4 h6 h8 h9 => ?_, by rw [eb]; split <;> omega⟩
    · rw [e2]
      refine S_fin_W hf hb ?_
      rw [eX]
      exact foldl_W a.2.2.2.2 (0, none, Z) (r_in_mem hr.1) W
    · rw [e2]
      refine S_fin_k (fun i k hi => ?_) h1 h4 h8 h9
      rw [eX]
      exact foldl_ne a.2.2.2.2 (0, none, Z) i k (fun q => hi q.1)
  · unfold S_do at e
    rw [if_neg hk] at e
    by_cases k5 : a.1 = 115
    · rw [if_pos k5] at e
      by_cases q : 0 ≤ S_nsay Z P T (nI a.2.1) (nI a.2.2.2.1)
      · rw [if_pos q] at e
        cases e
        refine ⟨W.tl _, fun i k h1 h2 h4 h6 h8 h9 => ?_, by omega⟩
        unfold S_tl
        rw [B_w_cell _ _ _ h9, B_w_cell _ _ _ h8]
      · rw [if_neg q] at e
        cases e
    · rw [if_neg k5] at e
      by_cases k8 : a.1 = 118
      · rw [if_pos k8] at e
        by_cases q : 0 ≤ S_nsell Z P T (nI a.2.1) a.2.2.1 (nI a.2.2.2.1)
        · rw [if_pos q] at e
          obtain ⟨p, o, t, hp, ho, ht, e1, e2, e3, hpo, q1, q2⟩ := S_nsell_0 W q
          have e1' : a.2.1 = p := (nI_eq (by have := ha.2.1; omega) (by omega)).mp e1
          have e3' : a.2.2.2.1 = t := (nI_eq (by have := ha.2.2.1; omega) (by omega)).mp e3
          cases e
          rw [e1', e3', e2, B_n_nI (by omega)]
          refine ⟨S_sold_W hp ho ht hpo q1 q2 W, fun i k h1 h2 h4 h6 h8 h9 => ?_, by omega⟩
          unfold S_sold
          rw [B_w_cell _ _ _ h9, B_w_cell _ _ _ h6, B_w_cell _ _ _ h2, B_w_cell _ _ _ h2]
        · rw [if_neg q] at e
          cases e
      · rw [if_neg k8] at e
        by_cases q : 0 ≤ S_nwh Z P T (nI a.2.1) a.2.2.1 (nI a.2.2.2.1)
        · rw [if_pos q] at e
          cases e
          exact ⟨W.kn _ _, fun i k _ _ _ _ _ h9 => congrFun (B_w_cell _ _ _ h9) k, by omega⟩
        · rw [if_neg q] at e
          cases e
/-! one side -/
def E_sl : Nat → Nat → Bool := fun a k => match a with
  | 22 => Nat.beq k 5
  | 23 => true
  | _ => false
def E_dc : Nat → Nat → Bool := fun a k => match a with
  | 5 => true
  | 6 => true
  | 8 => true
  | 10 => true
  | 12 => true
  | 13 => true
  | 22 => true
  | 23 => true
  | 24 => true
  | a => E_k a k
theorem E_go_dc : ∀ a k, E_go a k = true → E_dc a k = true := fun a k e => by
  unfold E_go at e
  split at e
  · rfl
  · rfl
  · unfold E_dc
    split <;> first | rfl | exact e
theorem E_set_dc : ∀ a k, E_set a k = true → E_dc a k = true := fun a k e => by
  unfold E_set at e
  have : a = 5 ∨ a = 8 ∨ a = 12 ∨ a = 13 := by simpa using e
  rcases this with rfl | rfl | rfl | rfl <;> rfl
theorem E_sl_dc : ∀ a k, E_sl a k = true → E_dc a k = true := fun a k e => by
  unfold E_sl at e
  split at e
  · rfl
  · rfl
  · cases e
theorem E_sl_sc : ∀ a k, E_sl a k = true → B_sc a k = true := fun a k e => by
  unfold E_sl at e
  split at e
  · have := Nat.eq_of_beq_eq_true e
    subst this
    rfl
  · rfl
  · cases e
theorem C_row.snoc {r : List Nat} {t : Nat} (C : C_row h r) (hl : r.length < 6) : C_row (px_w (px_w h 23 r.length (nI t)) 22 5 (nI (r.length + 1))) (r ++ [t]) := by
  have l1 : (r ++ [t]).length = r.length + 1 := by rw [List.length_append, List.length_singleton]
  refine ⟨by rw [B_w_same, l1], by omega, fun k hk => ?_⟩
  rw [l1] at hk
  rw [B_w_cell _ _ _ (show (23 : Nat) ≠ 22 by decide), B_w_at]
  by_cases e : k = r.length
  · subst e
    rw [if_pos rfl, Z_getD_last]
  · rw [if_neg e, Z_getD_pre r t (by omega)]
    exact C.2.2 k (by omega)
/-- behind the row -/
noncomputable def d_sail (h : pH) : pR := px_bind (cr_hasWords h) fun z1 h2 => if z1 = 0 then some (-200, h2) else px_bind (cr_go h2) fun _ h4 => px_bind (cr_settle h4) fun _ h6 => some (h6 22 10, h6)
theorem wu_sail_36_s (W : R_w P T K Y Z) : ∀ (l r : List Nat) (g : Nat) (h : pH), R_c h P T K Y Z → h 22 6 = ab → C_row h r → r_ok r T → r.length + l.length ≤ 6 → h 43 1 = nI (r.length + l.length) → (∀ i, i < l.length → h 44 (r.length + i) = nI (l.getD i 0)) → (∀ t, t ∈ l → t < 10) → l.length < g → (S_tk Z T ab l r = false → ∃ h', wu_sail_36 g (nI r.length) h = some (-1, h') ∧ B_fr E_sl h h') ∧ (S_tk Z T ab l r = true → ∃ h', wu_sail_36 g (nI r.length) h = d_sail h' ∧ C_row h' (r ++ l) ∧ B_fr E_sl h h') := by
  intro l
  induction l with
  | nil =>
    intro r g h R e6 C hr hl e1 e44 _ hg
    obtain ⟨g, rfl⟩ : ∃ n', g = n' + 1 := ⟨g - 1, by omega⟩
    refine ⟨(fun q => by cases q), fun _ => ⟨h, ?_, by rw [List.append_nil]; exact C, B_fr.refl _ _⟩⟩
    show (if h 43 1 ≤ nI r.length then _ else _) = _
    rw [e1]
    have hl' : r.length ≤ 6 := hr.2.2
    rw [List.length_nil, Nat.add_zero, if_pos (nI_le (Nat.le_refl _) (by omega)), bc_m200]
    rfl
  | cons t l ih =>
    intro r g h R e6 C hr hl e1 e44 h10l hg
    obtain ⟨g, rfl⟩ : ∃ n', g = n' + 1 := ⟨g - 1, by omega⟩
    have h10 := W.2.1
    have h10t := h10l t (List.mem_cons_self ..)
    rw [List.length_cons] at hl e1 hg
    have et : h 44 r.length = nI t := e44 0 (by rw [List.length_cons]; omega)
    have hct := cr_take_s (nI t) (r_in_small hr.1 h10) C e6 R W
    rw [decide_eq_true (show r.length < 6 by omega), Bool.true_and] at hct
    have hz : wu_sail_36 (g + 1) (nI r.length) h = px_bind (cr_take (nI t) h) fun z9 h10 => if z9 = 0 then some (-1, h10) else wu_sail_36 g (nI (r.length + 1)) h10 := by
      show (if h 43 1 ≤ nI r.length then _ else _) = _
      rw [e1, if_neg (nI_ge (by omega) (by omega)), wa_44 (by omega), B_bind, et, bc_m1, bc_1, nI_add]
    rw [hz, hct]
    show ((S_can Z T ab r (nI t) && S_tk Z T ab l (r ++ [t])) = false → _) ∧ ((S_can Z T ab r (nI t) && S_tk Z T ab l (r ++ [t])) = true → _)
    cases hc : S_can Z T ab r (nI t) with
    | false =>
      refine ⟨fun _ => ⟨h, ?_, B_fr.refl _ _⟩, fun q => by cases q⟩
      rw [if_neg (by decide), B_bind, if_pos rfl]
    | true =>
      rw [if_pos rfl, B_bind, if_neg (show ¬ nI 1 = 0 by decide), Bool.true_and]
      obtain ⟨t', ht, e, hn, -, -⟩ := S_can_ex W hc
      have htt : t = t' := (nI_eq (by omega) (by omega)).mp e
      subst htt
      have F : B_fr E_sl h (px_w (px_w h 23 r.length (nI t)) 22 5 (nI (r.length + 1))) := ((B_fr.refl _ h).w rfl).w rfl
      have l1 : (r ++ [t]).length = r.length + 1 := by rw [List.length_append, List.length_singleton]
      obtain ⟨i1, i2⟩ := ih (r ++ [t]) g _ (R.sm (F.mono E_sl_sc).sm_c) (by rw [F 22 6 rfl, e6]) (C.snoc (by omega)) (r_ok_app hr ht hn (by omega)) (by omega) (by rw [F 43 1 rfl, e1, l1]; congr 1; omega) (fun i hi => by
        rw [F 44 _ rfl, l1, show r.length + 1 + i = r.length + (i + 1) by omega]
        exact e44 (i + 1) (by rw [List.length_cons]; omega)) (fun t ht => h10l t (List.mem_cons_of_mem _ ht)) (by omega)
      rw [l1] at i1 i2
      refine ⟨fun q => ?_, fun q => ?_⟩
      · obtain ⟨h', a1, a2⟩ := i1 q
        exact ⟨h', a1, F.trans a2⟩
      · obtain ⟨h', a1, a2, a3⟩ := i2 q
        rw [List.append_assoc] at a2
        exact ⟨h', a1, a2, F.trans a3⟩
theorem d_one (ha : d_ok a) (C : C_h h P T K Y Z ev) (W : R_w P T K Y Z) (A : C_act h a) : ∃ z h', (if a.1 = 99 then wu_sail h else wu_gossip h) = some (z, h') ∧ B_fr E_dc h h' ∧ ((S_do ev P T K Y Z a = none ∧ z < 0 ∧ R_c h' P T K Y Z) ∨ (∃ Z2 b, S_do ev P T K Y Z a = some (Z2, b) ∧ ¬ z < 0 ∧ R_c h' P T K Y Z2 ∧ (a.1 = 99 → (h' 22 11 = -1) = (b = 0)))) := by
  have h6 := W.1
  have h10 := W.2.1
  have R := C.1
  obtain ⟨A2, A3, A4, A99, A6⟩ := A
  by_cases hk : a.1 = 99
  · obtain ⟨A5, A1, A44⟩ := A99 hk
    have hl6 := ha.2.2.2.2.2.1
    have hbg := cr_begin_s (nI a.2.1) a.2.2.1 (nI a.2.2.2.1) R W
    rw [if_pos hk]
    have hsl : wu_sail h = px_bind (cr_begin (nI a.2.1) a.2.2.1 (nI a.2.2.2.1) h) fun z1 h2 => if z1 = 0 then some (-100, h2) else wu_sail_36 px_F 0 h2 := by
      unfold wu_sail
      rw [A3, A4, A5, bc_m100, bc_0]
    by_cases q1 : S_beg Z P (nI a.2.1) a.2.2.1 (nI a.2.2.2.1) = true
    · rw [if_pos q1] at hbg
      obtain ⟨p, b', f, hp, hb, hf, e1, e3, ef, hfb, -⟩ := S_beg_ex W q1
      have e1' : a.2.1 = p := (nI_eq (by have := ha.2.1; omega) (by omega)).mp e1
      have e3' : a.2.2.2.1 = b' := (nI_eq (by have := ha.2.2.1; omega) (by omega)).mp e3
      have hb2 : a.2.2.2.1 < 2 := by omega
      have efn : B_n (Z 1 a.2.1) = f := by rw [e1', ef, B_n_nI (by have := W.2.2.1; omega)]
      have hD : S_dist Z Y f a.2.2.2.1 ≤ 60 := by
        have l1 := S_yd_le W hf
        have l2 := S_yd_le W (show a.2.2.2.1 < 2 + K by omega)
        unfold S_dist
        omega
      rw [B_n_nI (show a.2.1 < 2 ^ 31 by have := ha.2.1; omega), B_n_nI (show a.2.2.2.1 < 2 ^ 31 by omega), efn] at hbg
      generalize hH2 : B_ld h (S_abd (nI a.2.1) a.2.2.1) (Z 1 a.2.1) (nI a.2.2.2.1) (nI (S_dist Z Y f a.2.2.2.1)) = h2 at hbg
      have F2s : B_fr B_sc h h2 := by rw [← hH2]; exact B_ld_fr _ _ _ _ _
      have F2 : B_fr E_dc h h2 := by rw [← hH2]; exact (((((B_fr.refl _ h).w rfl).w rfl).w rfl).w rfl).w rfl
      have f43 : ∀ b, b ≠ 22 → h2 b = h b := fun b hb => by
        rw [← hH2]
        unfold B_ld
        rw [B_w_cell _ _ _ hb, B_w_cell _ _ _ hb, B_w_cell _ _ _ hb, B_w_cell _ _ _ hb, B_w_cell _ _ _ hb]
      have Cr0 : C_row h2 [] := ⟨by rw [← hH2, B_ld_5]; rfl, by simp, fun k hk => absurd hk (by simp)⟩
      obtain ⟨s1, s2⟩ := wu_sail_36_s (ab := S_abd (nI a.2.1) a.2.2.1) W a.2.2.2.2 [] px_F h2 (R.sm F2s.sm_c) (by rw [← hH2, B_ld_6]) Cr0 (r_ok_nil T) (by simpa using hl6) (by rw [f43 43 (by decide), A1]; simp) (fun i hi => by rw [f43 44 (by decide)]; simpa using A44 i hi) (d_mem ha) (px_F_lt (by omega))
      have e0 : nI ([] : List Nat).length = 0 := rfl
      rw [e0] at s1 s2
      rw [hsl, hbg, B_bind, if_neg (show ¬ nI 1 = 0 by decide)]
      by_cases q2 : S_tk Z T (S_abd (nI a.2.1) a.2.2.1) a.2.2.2.2 [] = true
      · obtain ⟨h3, b1, b2, b3⟩ := s2 q2
        rw [List.nil_append] at b2
        have F3 : B_fr E_dc h h3 := F2.trans (b3.mono E_sl_dc)
        have hr := S_tk_ok W a.2.2.2.2 [] (r_ok_nil T) (by simpa using hl6) (d_mem ha) q2
        rw [List.nil_append] at hr
        have C3 : C_h h3 P T K Y Z ev := (C.fr F2s).fr (b3.mono E_sl_sc)
        have g22 : ∀ k, k ≠ 5 → h3 22 k = h2 22 k := fun k hk => b3 22 k (beq_ne hk)
        have g6 : h3 22 6 = S_abd (nI a.2.1) a.2.2.1 := by rw [g22 6 (by decide), ← hH2, B_ld_6]
        have g7 : h3 22 7 = nI f := by rw [g22 7 (by decide), ← hH2, B_ld_7, e1', ef]
        have g8 : h3 22 8 = nI a.2.2.2.1 := by rw [g22 8 (by decide), ← hH2, B_ld_8]
        have g9 : h3 22 9 = nI (S_dist Z Y f a.2.2.2.1) := by rw [g22 9 (by decide), ← hH2, B_ld_9]
        have hhw := cr_hasWords_s hD g9 hr.1 b2 C3.1 W
        rw [b1]
        unfold d_sail
        rw [hhw, B_bind]
        by_cases q3 : S_dist Z Y f a.2.2.2.1 ≤ S_wds Z a.2.2.2.2
        · rw [decide_eq_true q3, if_neg (show ¬ B_01 true = 0 by decide)]
          have eX : S_dX ev Z Y a = S_go ev Z (S_dist Z Y f a.2.2.2.1) (S_abd (nI a.2.1) a.2.2.1) a.2.2.2.2 := by
            unfold S_dX
            rw [efn]
          obtain ⟨h4, c1, c2, c3, c4, c5, c6, c7⟩ := cr_go_s (ev := ev) (ab := S_abd (nI a.2.1) a.2.2.1) (p := f) (b := a.2.2.2.1) hD hf hb2 hr.1 hr.2.1 W C3 b2 g6 g7 g8 g9
          rw [← eX] at c3 c4 c5 c7
          have C4 := C3.fr (c2.mono E_go_sc)
          have hXs : ∀ t, (S_dX ev Z Y a).2.1 = some t → t < T := by
            rw [eX]
            exact foldl_said a.2.2.2.2 (0, none, Z) (fun t q => by cases q) (r_in_mem hr.1)
          have hXl : (S_dX ev Z Y a).1 ≤ S_dist Z Y f a.2.2.2.1 := by
            rw [eX]
            exact foldl_le a.2.2.2.2 _ (by show 0 ≤ _; omega)
          obtain ⟨h5, t1, t2, t3⟩ := cr_settle_s (p := f) (b := a.2.2.2.1) (ab := S_abd (nI a.2.1) a.2.2.1) hf hb2 hr.1 W C4.1 (b2.fr c2) (x := S_dX ev Z Y a) (by rw [c2 22 6 rfl, g6]) c4 hXs c5 hr.2.1 c6 c7
          refine ⟨h5 22 10, h5, ?_, (F3.trans (c2.mono E_go_dc)).trans (t3.mono E_set_dc), Or.inr ⟨_, if (S_dX ev Z Y a).2.1 = none then 0 else 1, ?_, ?_, t2, fun _ => ?_⟩⟩
          · rw [c1, B_bind, t1, B_bind]
          · unfold S_do
            rw [if_pos hk, if_pos ⟨q1, q2, by rw [efn]; exact q3⟩, efn]
          · rw [t3 22 10 rfl, c3]
            exact nI_pos (by omega)
          · rw [t3 22 11 rfl, c4, S_enc_m (fun t e => by have := hXs t e; omega)]
            by_cases w : (S_dX ev Z Y a).2.1 = none
            · rw [if_pos w]
              exact propext ⟨fun _ => rfl, fun _ => w⟩
            · rw [if_neg w]
              exact propext ⟨fun e => absurd e w, fun e => by cases e⟩
        · rw [decide_eq_false q3, if_pos (show B_01 false = 0 from rfl)]
          refine ⟨-200, h3, rfl, F3, Or.inl ⟨?_, by decide, C3.1⟩⟩
          unfold S_do
          rw [if_pos hk, if_neg (fun w => q3 (by
            have := w.2.2
            rw [efn] at this
            exact this))]
      · obtain ⟨h3, b1, b2⟩ := s1 (Bool.eq_false_iff.mpr q2)
        refine ⟨-1, h3, b1, F2.trans (b2.mono E_sl_dc), Or.inl ⟨?_, by decide, (R.sm F2s.sm_c).sm (b2.mono E_sl_sc).sm_c⟩⟩
        unfold S_do
        rw [if_pos hk, if_neg (fun w => q2 w.2.1)]
    · rw [if_neg q1] at hbg
      refine ⟨-100, h, ?_, B_fr.refl _ _, Or.inl ⟨?_, by decide, R⟩⟩
      · rw [hsl, hbg, B_bind, if_pos rfl]
      · unfold S_do
        rw [if_pos hk, if_neg (fun w => q1 w.1)]
  · have A6' := A6 hk
    have e118 : px_c 118 = nI 118 := bc_118
    have hp6 := ha.2.1
    have ht10 := ha.2.2.1
    have hkk := ha.1
    rw [if_neg hk]
    unfold wu_gossip S_do
    rw [A2, A3, A4, A6', bc_115, e118, if_neg hk]
    by_cases k5 : a.1 = 115
    · rw [if_pos (by rw [k5]), if_pos k5]
      by_cases q : 0 ≤ S_nsay Z P T (nI a.2.1) (nI a.2.2.2.1)
      · obtain ⟨p, t, hp, ht, e1, e3, ew⟩ := S_nsay_0 W q
        have e1' : a.2.1 = p := (nI_eq (by omega) (by omega)).mp e1
        have e3' : a.2.2.2.1 = t := (nI_eq (by omega) (by omega)).mp e3
        rw [e1', e3'] at q ⊢
        obtain ⟨j, hj, ej⟩ := B_pc_pos (S_hear Z P p t)
        rw [hs_speak_0 hp ht q R W, B_bind, if_pos q]
        exact ⟨_, _, rfl, ((B_fr.refl _ h).w rfl).w rfl, Or.inr ⟨_, 0, rfl, by rw [ej]; exact nI_pos (by omega), R.tl t _, fun e => absurd e (by omega)⟩⟩
      · rw [hs_speak_n q R W, B_bind, if_neg q]
        exact ⟨_, h, rfl, B_fr.refl _ _, Or.inl ⟨rfl, Int32.not_le.mp q, R⟩⟩
    · rw [if_neg (fun w => k5 ((nI_eq (by omega) (by omega)).mp w)), if_neg k5]
      by_cases k8 : a.1 = 118
      · rw [if_pos (by rw [k8]), if_pos k8]
        by_cases q : 0 ≤ S_nsell Z P T (nI a.2.1) a.2.2.1 (nI a.2.2.2.1)
        · obtain ⟨p, o, t, hp, ho, ht, e1, e2, e3, hpo, q1, q2⟩ := S_nsell_0 W q
          have e1' : a.2.1 = p := (nI_eq (by omega) (by omega)).mp e1
          have e3' : a.2.2.2.1 = t := (nI_eq (by omega) (by omega)).mp e3
          rw [e1', e3', e2] at q ⊢
          obtain ⟨L, hL, eL⟩ := W.2.2.2.2.2.2.2.2.1 t ht
          have epr : S_price Z t = nI ((L + 4) / 5) := by
            unfold S_price
            rw [eL, nI_add, pk_div (by omega) (by omega) (by omega)]
          rw [hs_trade_0 hp ho ht hpo q R W, B_bind, if_pos q, B_n_nI (by omega)]
          exact ⟨_, _, rfl, ((((B_fr.refl _ h).w rfl).w rfl).w rfl).w rfl, Or.inr ⟨_, 0, rfl, by rw [epr]; exact nI_pos (by omega), (((R.w6 p _).w6 o _).w10 t _).w13 t _, fun e => absurd e (by omega)⟩⟩
        · have hn : hs_trade (nI a.2.1) a.2.2.1 (nI a.2.2.2.1) h = some (S_nsell Z P T (nI a.2.1) a.2.2.1 (nI a.2.2.2.1), h) := by
            unfold hs_trade
            rw [hs_whyNotSell_s _ _ _ R W, B_bind, if_neg q]
          rw [hn, B_bind, if_neg q]
          exact ⟨_, h, rfl, B_fr.refl _ _, Or.inl ⟨rfl, Int32.not_le.mp q, R⟩⟩
      · rw [if_neg (fun w => k8 ((nI_eq (by omega) (by omega)).mp w)), if_neg k8]
        by_cases q : 0 ≤ S_nwh Z P T (nI a.2.1) a.2.2.1 (nI a.2.2.2.1)
        · obtain ⟨p, o, t, hp, ho, ht, e1, e2, e3, hpo, hk', hs, hto⟩ := S_nwh_0 W q
          have e1' : a.2.1 = p := (nI_eq (by omega) (by omega)).mp e1
          have e3' : a.2.2.2.1 = t := (nI_eq (by omega) (by omega)).mp e3
          rw [e1', e3', e2] at q ⊢
          rw [hs_passOn_0 hp ho ht hpo hk' hs hto R W, B_bind, if_pos q]
          refine ⟨_, _, rfl, (B_fr.refl _ h).w rfl, Or.inr ⟨_, 0, rfl, ?_, R.w13 t _, fun e => absurd e hk⟩⟩
          unfold S_rwh
          split <;> decide
        · rw [hs_passOn_n q R W, B_bind, if_neg q]
          exact ⟨_, h, rfl, B_fr.refl _ _, Or.inl ⟨rfl, Int32.not_le.mp q, R⟩⟩
end DODO
