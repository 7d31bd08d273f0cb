/-! Layer B: the rows as lists: ahead of those that go on from them, and by length -/
section LISTS
variable {α : Type} {ok : List Nat → Nat → Bool}
def R_ch (ok : List Nat → Nat → Bool) (r : List Nat) : List Nat := (List.range 10).filter (ok r)
def R_pl (ok : List Nat → Nat → Bool) : Nat → List Nat → List (List Nat)
  | 0, _ => []
  | d + 1, r => (R_ch ok r).flatMap (fun t => (r ++ [t]) :: R_pl ok d (r ++ [t]))
def R_el (ok : List Nat → Nat → Bool) : Nat → List Nat → List (List Nat)
  | 0, r => [r]
  | d + 1, r => (R_ch ok r).flatMap (fun t => R_el ok d (r ++ [t]))
theorem B_fold_range (g : Nat → α → α) : ∀ n a, B_fold g 0 n a = (List.range n).foldl (fun a t => g t a) a := by
  intro n
  induction n with
  | zero => intro a; rfl
  | succ n ih =>
    intro a
    rw [B_fold_snoc, ih, List.range_succ, List.foldl_append]
    rfl
theorem B_fold_ch (f : Nat → α → α) (r : List Nat) (a : α) : B_fold (fun t a => if ok r t = true then f t a else a) 0 10 a = (R_ch ok r).foldl (fun a t => f t a) a := by
  rw [B_fold_range]
  unfold R_ch
  rw [List.foldl_filter]
theorem E_v_el (bd : List Nat → α → α) : ∀ n r a, E_v ok bd n r a = (R_el ok n r).foldl (fun a r => bd r a) a := by
  intro n
  induction n with
  | zero => intro r a; rfl
  | succ n ih =>
    intro r a
    unfold E_v R_el
    rw [B_fold_ch, List.foldl_flatMap]
    congr 1
    funext a t
    exact ih _ _
theorem foldl_id {β : Type} (l : List β) (f : α → β → α) (h : ∀ x, x ∈ l → ∀ a, f a x = a) (a : α) : l.foldl f a = a := by
  induction l generalizing a with
  | nil => rfl
  | cons x l ih =>
    rw [List.foldl_cons, h x List.mem_cons_self]
    exact ih (fun y hy => h y (List.mem_cons_of_mem _ hy)) a
theorem flatMap_split {β γ : Type} (l : List β) (f g : β → List γ) : (l.flatMap (fun x => f x ++ g x)).Perm (l.flatMap f ++ l.flatMap g) := by
  induction l with
  | nil => exact List.Perm.refl _
  | cons x l ih =>
    simp only [List.flatMap_cons]
    rw [List.append_assoc, List.append_assoc]
    refine List.Perm.append_left (f x) ?_
    refine (List.Perm.append_left (g x) ih).trans ?_
    rw [← List.append_assoc, ← List.append_assoc]
    exact List.Perm.append_right _ List.perm_append_comm
theorem flatMap_perm {β γ : Type} (l : List β) (f g : β → List γ) (h : ∀ x, (f x).Perm (g x)) : (l.flatMap f).Perm (l.flatMap g) := by
  induction l with
  | nil => exact List.Perm.refl _
  | cons x l ih =>
    simp only [List.flatMap_cons]
    exact List.Perm.append (h x) ih
theorem R_pl_1 (r : List Nat) : R_pl ok 1 r = R_el ok 1 r := by
  unfold R_pl R_el
  rfl
theorem R_pl_2 (r : List Nat) : (R_pl ok 2 r).Perm (R_el ok 1 r ++ R_el ok 2 r) := by
  have e : R_pl ok 2 r = (R_ch ok r).flatMap (fun t => [r ++ [t]] ++ R_el ok 1 (r ++ [t])) := by
    show (R_ch ok r).flatMap (fun t => (r ++ [t]) :: R_pl ok 1 (r ++ [t])) = _
    congr 1
  rw [e]
  exact flatMap_split _ _ _
theorem R_pl_3 (r : List Nat) : (R_pl ok 3 r).Perm (R_el ok 1 r ++ (R_el ok 2 r ++ R_el ok 3 r)) := by
  have e : (R_pl ok 3 r).Perm ((R_ch ok r).flatMap (fun t => [r ++ [t]] ++ (R_el ok 1 (r ++ [t]) ++ R_el ok 2 (r ++ [t])))) := by
    show ((R_ch ok r).flatMap (fun t => (r ++ [t]) :: R_pl ok 2 (r ++ [t]))).Perm _
    exact flatMap_perm _ _ _ (fun t => List.Perm.append_left [r ++ [t]] (R_pl_2 (r ++ [t])))
  refine e.trans ((flatMap_split _ _ _).trans ?_)
  exact List.Perm.append_left _ (flatMap_split _ _ _)
theorem R_fold_3 {f : α → List Nat → α} (hc : ∀ x y z, f (f z x) y = f (f z y) x) (a : α) : (R_pl ok 3 []).foldl f a = (R_el ok 3 []).foldl f ((R_el ok 2 []).foldl f ((R_el ok 1 []).foldl f a)) := by
  rw [List.Perm.foldl_eq' (R_pl_3 []) (fun x _ y _ z => hc x y z), List.foldl_append, List.foldl_append]
end LISTS
/-! rows in their order -/
def L_ls : List Nat → List Nat → Bool
  | _, [] => false
  | [], _ :: _ => true
  | a :: l, b :: m => if a = b then L_ls l m else decide (a < b)
theorem L_ls_nil (l : List Nat) : L_ls l [] = false := by cases l <;> rfl
theorem L_ls_cons (a b : Nat) (l m : List Nat) : L_ls (a :: l) (b :: m) = if a = b then L_ls l m else decide (a < b) := rfl
theorem L_ls_irr : ∀ l, L_ls l l = false := by
  intro l
  induction l with
  | nil => rfl
  | cons a l ih => rw [L_ls_cons, if_pos rfl]; exact ih
theorem L_ls_asym : ∀ l m, L_ls l m = true → L_ls m l = false := by
  intro l
  induction l with
  | nil =>
    intro m h
    cases m with
    | nil => cases h
    | cons b m => rfl
  | cons a l ih =>
    intro m h
    cases m with
    | nil => cases h
    | cons b m =>
      rw [L_ls_cons] at h ⊢
      by_cases e : a = b
      · subst e
        rw [if_pos rfl] at h ⊢
        exact ih m h
      · rw [if_neg e] at h
        rw [if_neg (fun w => e w.symm)]
        simp only [decide_eq_true_eq] at h
        simp only [decide_eq_false_iff_not]
        omega
theorem L_ls_trans : ∀ l m k, L_ls l m = true → L_ls m k = true → L_ls l k = true := by
  intro l
  induction l with
  | nil =>
    intro m k h1 h2
    cases k with
    | nil => rw [L_ls_nil] at h2; cases h2
    | cons c k => rfl
  | cons a l ih =>
    intro m k h1 h2
    cases m with
    | nil => cases h1
    | cons b m =>
      cases k with
      | nil => cases h2
      | cons c k =>
        rw [L_ls_cons] at h1 h2 ⊢
        by_cases e1 : a = b
        · subst e1
          rw [if_pos rfl] at h1
          by_cases e2 : a = c
          · rw [if_pos e2] at h2 ⊢
            exact ih m k h1 h2
          · rw [if_neg e2] at h2 ⊢
            exact h2
        · rw [if_neg e1] at h1
          simp only [decide_eq_true_eq] at h1
          by_cases e2 : b = c
          · subst e2
            rw [if_neg e1]
            exact decide_eq_true h1
          · rw [if_neg e2] at h2
            simp only [decide_eq_true_eq] at h2
            rw [if_neg (by omega)]
            exact decide_eq_true (by omega)
theorem L_ls_tri : ∀ l m, L_ls l m = true ∨ l = m ∨ L_ls m l = true := by
  intro l
  induction l with
  | nil =>
    intro m
    cases m with
    | nil => exact Or.inr (Or.inl rfl)
    | cons b m => exact Or.inl rfl
  | cons a l ih =>
    intro m
    cases m with
    | nil => exact Or.inr (Or.inr rfl)
    | cons b m =>
      rw [L_ls_cons, L_ls_cons]
      by_cases e : a = b
      · subst e
        rw [if_pos rfl, if_pos rfl]
        rcases ih m with h | h | h
        · exact Or.inl h
        · exact Or.inr (Or.inl (by rw [h]))
        · exact Or.inr (Or.inr h)
      · rw [if_neg e, if_neg (fun w => e w.symm)]
        rcases Nat.lt_trichotomy a b with h | h | h
        · exact Or.inl (decide_eq_true h)
        · exact absurd h e
        · exact Or.inr (Or.inr (decide_eq_true h))
def L_mn (l r : List Nat) : List Nat := if L_ls r l = true then r else l
theorem L_mn_comm (l r : List Nat) : L_mn l r = L_mn r l := by
  unfold L_mn
  rcases L_ls_tri l r with h | h | h
  · rw [if_pos h, if_neg (by rw [L_ls_asym _ _ h]; decide)]
  · rw [h]
  · rw [if_pos h, if_neg (by rw [L_ls_asym _ _ h]; decide)]
theorem L_mn_cc (l x y : List Nat) : L_mn (L_mn l x) y = L_mn (L_mn l y) x := by
  unfold L_mn
  by_cases h1 : L_ls x l = true
  · rw [if_pos h1]
    by_cases h2 : L_ls y l = true
    · rw [if_pos h2]
      exact L_mn_comm x y
    · rw [if_neg h2, if_pos h1]
      refine if_neg (fun w => h2 (L_ls_trans _ _ _ w h1))
  · rw [if_neg h1]
    by_cases h2 : L_ls y l = true
    · rw [if_pos h2]
      exact (if_neg (fun w => h1 (L_ls_trans _ _ _ w h2))).symm
    · rw [if_neg h2, if_neg h1]
theorem L_ls_app (r : List Nat) : ∀ x y, L_ls (r ++ x) (r ++ y) = L_ls x y := by
  induction r with
  | nil => intro x y; rfl
  | cons a r ih =>
    intro x y
    rw [List.cons_append, List.cons_append, L_ls_cons, if_pos rfl]
    exact ih x y
theorem R_pl_ext {ok : List Nat → Nat → Bool} : ∀ d r x, x ∈ R_pl ok d r → ∃ t s, x = r ++ t :: s ∧ ok r t = true := by
  intro d
  induction d with
  | zero => intro r x h; cases h
  | succ d ih =>
    intro r x h
    unfold R_pl at h
    rw [List.mem_flatMap] at h
    obtain ⟨t, ht, hx⟩ := h
    have hk : ok r t = true := (List.mem_filter.mp ht).2
    rcases List.mem_cons.mp hx with e | e
    · exact ⟨t, [], e, hk⟩
    · obtain ⟨u, s, e2, _⟩ := ih _ _ e
      exact ⟨t, u :: s, by rw [e2, List.append_assoc]; rfl, hk⟩
theorem R_pl_sorted {ok : List Nat → Nat → Bool} : ∀ d r, (R_pl ok d r).Pairwise (fun a b => L_ls a b = true) := by
  intro d
  induction d with
  | zero => intro r; exact List.Pairwise.nil
  | succ d ih =>
    intro r
    unfold R_pl
    rw [List.pairwise_flatMap]
    constructor
    · intro t _
      refine List.Pairwise.cons (fun x hx => ?_) (ih _)
      obtain ⟨u, s, e, _⟩ := R_pl_ext d _ x hx
      have := L_ls_app (r ++ [t]) [] (u :: s)
      rw [List.append_nil] at this
      rw [e, this]
      rfl
    · have hp : (R_ch ok r).Pairwise (fun a b => a < b) := List.Pairwise.filter _ List.pairwise_lt_range
      refine hp.imp (fun {t u} htu x hx y hy => ?_)
      have hh : ∀ v z, z ∈ (r ++ [v]) :: R_pl ok d (r ++ [v]) → ∃ s, z = r ++ v :: s := by
        intro v z hz
        rcases List.mem_cons.mp hz with e | e
        · exact ⟨[], e⟩
        · obtain ⟨w, s, e2, _⟩ := R_pl_ext d _ z e
          exact ⟨w :: s, by rw [e2, List.append_assoc]; rfl⟩
      obtain ⟨s1, e1⟩ := hh t x hx
      obtain ⟨s2, e2⟩ := hh u y hy
      rw [e1, e2, L_ls_app, L_ls_cons, if_neg (by omega)]
      exact decide_eq_true htu
/-- where every row is gone to, what is not wanted is passed over -/
theorem W_full {α : Type} {T D lg : Nat} {Z : pH} {ab : Int32} (hlg : ∀ t, Z_us Z T ab t = true → B_n (Z 4 t) ≤ lg) (bd : List Nat → α → α) (hno : ∀ r a, ¬ D ≤ S_wds Z r → bd r a = a) (a : α) : (if Z_rc Z D lg 3 [] = true then W_v (Z_ok Z T ab) (fun _ => 3) (fun _ r => Z_rc Z D lg 3 r) bd (fun _ => true) 4 [] a else a) = (R_pl (Z_ok Z T ab) 3 []).foldl (fun a r => bd r a) a := by
  have hsk : ∀ d r, r.length + d ≤ 3 → ¬ Z_rc Z D lg 3 r = true → ∀ a, (R_pl (Z_ok Z T ab) d r).foldl (fun a r => bd r a) a = a := by
    intro d
    induction d with
    | zero => intro r _ _ a; rfl
    | succ d ih =>
      intro r hl h a
      unfold R_pl
      rw [List.foldl_flatMap]
      refine foldl_id _ _ (fun t ht a => ?_) a
      have hk : Z_ok Z T ab r t = true := (List.mem_filter.mp ht).2
      have h2 : ¬ Z_rc Z D lg 3 (r ++ [t]) = true := by
        intro w
        apply h
        unfold Z_rc at w ⊢
        rw [decide_eq_true_eq] at w ⊢
        rw [S_wds_app, List.length_append, List.length_singleton] at w
        have h1 := hlg t (Z_ok_iff.mp hk).1
        obtain ⟨j, hj⟩ : ∃ j, 3 - r.length = j + 1 := ⟨3 - r.length - 1, by omega⟩
        rw [show 3 - (r.length + 1) = j by omega] at w
        rw [hj, Nat.succ_mul]
        omega
      rw [List.foldl_cons, hno (r ++ [t]) a (fun w => h2 (decide_eq_true (Nat.le_trans w (Nat.le_add_right _ _))))]
      exact ih (r ++ [t]) (by rw [List.length_append, List.length_singleton]; omega) h2 a
  have H : ∀ d r a, r.length + d = 3 → W_v (Z_ok Z T ab) (fun _ => 3) (fun _ r => Z_rc Z D lg 3 r) bd (fun _ => true) (d + 1) r a = (R_pl (Z_ok Z T ab) d r).foldl (fun a r => bd r a) a := by
    intro d
    induction d with
    | zero =>
      intro r a hl
      exact W_v_stop _ _ _ _ _ 1 r a (by omega)
    | succ d ih =>
      intro r a hl
      have e : W_v (Z_ok Z T ab) (fun _ => 3) (fun _ r => Z_rc Z D lg 3 r) bd (fun _ => true) (d + 1 + 1) r a = B_fold (fun t a => if Z_ok Z T ab r t = true then (R_pl (Z_ok Z T ab) d (r ++ [t])).foldl (fun a r => bd r a) (bd (r ++ [t]) a) else a) 0 10 a := by
        show B_fold _ 0 10 a = _
        refine B_fold_eq 10 0 a (fun t _ _ b => ?_)
        unfold W_s
        by_cases c : Z_ok Z T ab r t = true
        · rw [if_pos ⟨by show r.length < 3; omega, c⟩, if_pos c]
          by_cases q : Z_rc Z D lg 3 (r ++ [t]) = true
          · rw [if_pos ⟨rfl, q⟩]
            exact ih (r ++ [t]) _ (by rw [List.length_append, List.length_singleton]; omega)
          · rw [if_neg (fun w => q w.2)]
            exact (hsk d (r ++ [t]) (by rw [List.length_append, List.length_singleton]; omega) q _).symm
        · rw [if_neg (fun w => c w.2), if_neg c]
      have e2 : R_pl (Z_ok Z T ab) (d + 1) r = (R_ch (Z_ok Z T ab) r).flatMap (fun t => (r ++ [t]) :: R_pl (Z_ok Z T ab) d (r ++ [t])) := rfl
      rw [e, B_fold_ch, e2, List.foldl_flatMap]
      rfl
  by_cases c : Z_rc Z D lg 3 [] = true
  · rw [if_pos c]
    exact H 3 [] a rfl
  · rw [if_neg c]
    exact (hsk 3 [] (by show 0 + 3 ≤ 3; omega) c a).symm
