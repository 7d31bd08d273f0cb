/-! Layer B: a crossing, thing by thing -/
noncomputable def S_st (ev : pE) (S0 : pH) (D : Nat) (ab : Int32) (x : Nat × Option Nat × pH) (t : Nat) : Nat × Option Nat × pH := match x.2.1 with
  | some _ => x
  | none => (x.1 + B_first (S_bu ev S0 ab t (B_n (x.2.2 4 t)) x.1) 0 (min (B_n (x.2.2 4 t)) (D - x.1)), if B_first (S_bu ev S0 ab t (B_n (x.2.2 4 t)) x.1) 0 (min (B_n (x.2.2 4 t)) (D - x.1)) < min (B_n (x.2.2 4 t)) (D - x.1) then some t else none, px_w x.2.2 4 t (nI (B_n (x.2.2 4 t) - B_first (S_bu ev S0 ab t (B_n (x.2.2 4 t)) x.1) 0 (min (B_n (x.2.2 4 t)) (D - x.1)))))
noncomputable def S_go (ev : pE) (S0 : pH) (D : Nat) (ab : Int32) (r : List Nat) : Nat × Option Nat × pH := r.foldl (S_st ev S0 D ab) (0, none, S0)
def S_enc : Option Nat → Int32
  | none => -1
  | some t => nI t
/-- where they are then -/
def S_pl (S : pH) (Y K p b : Nat) (x : Nat × Option Nat × pH) : Int32 := match x.2.1 with
  | none => nI b
  | some _ => S_land S Y K p b x.1
def S_fin (S : pH) (Y K : Nat) (ab : Int32) (p b : Nat) (x : Nat × Option Nat × pH) : pH := S_mv (match x.2.1 with
  | none => x.2.2
  | some t => S_tl x.2.2 t ab) ab (S_pl S Y K p b x)
section GO
variable {h : pH} {P T K Y D p b : Nat} {S : pH} {ev : pE} {ab : Int32} {r : List Nat}
theorem S_st_le {x : Nat × Option Nat × pH} (hx : x.1 ≤ D) (t : Nat) : (S_st ev S D ab x t).1 ≤ D := by
  unfold S_st
  split
  · exact hx
  · have := (B_first_le (S_bu ev S ab t (B_n (x.2.2 4 t)) x.1) (min (B_n (x.2.2 4 t)) (D - x.1)) 0).2
    show x.1 + _ ≤ D
    omega
theorem S_st_ge {x : Nat × Option Nat × pH} (t : Nat) : x.1 ≤ (S_st ev S D ab x t).1 := by
  unfold S_st
  split
  · exact Nat.le_refl _
  · exact Nat.le_add_right _ _
theorem S_st_ne {x : Nat × Option Nat × pH} {t i k : Nat} (hi : ¬ (i = 4 ∧ k = t)) : (S_st ev S D ab x t).2.2 i k = x.2.2 i k := by
  unfold S_st
  split
  · rfl
  · exact px_w_nq hi
theorem R_w.w4 (W : R_w P T K Y S) (t : Nat) {v : Nat} (hv : v < 41) : R_w P T K Y (px_w S 4 t (nI v)) := by
  obtain ⟨h6, h10, h5, hY2, hY60, w0, w1, w2, w4, w6, w7, w8, w9, w10, w11⟩ := W
  refine ⟨h6, h10, h5, hY2, hY60, w0, w1, w2, fun k hk => ?_, w6, w7, w8, w9, w10, w11⟩
  rw [B_w_at]
  split
  · exact ⟨v, hv, rfl⟩
  · exact w4 k hk
theorem S_st_W {x : Nat × Option Nat × pH} {t : Nat} (ht : t < T) (W : R_w P T K Y x.2.2) : R_w P T K Y (S_st ev S D ab x t).2.2 := by
  have w4 := B_lt_n (by omega) (W.2.2.2.2.2.2.2.2.1 t ht)
  unfold S_st
  split
  · exact W
  · exact W.w4 t (by omega)
theorem foldl_ne : ∀ (l : List Nat) (x : Nat × Option Nat × pH) (i k : Nat), ¬ (i = 4 ∧ k ∈ l) → (l.foldl (S_st ev S D ab) x).2.2 i k = x.2.2 i k := by
  intro l
  induction l with
  | nil => intro x i k _; rfl
  | cons t l ih =>
    intro x i k hi
    rw [List.foldl_cons, ih _ i k (fun q => hi ⟨q.1, List.mem_cons_of_mem _ q.2⟩), S_st_ne (fun q => hi ⟨q.1, by rw [q.2]; exact List.mem_cons_self⟩)]
theorem foldl_W : ∀ (l : List Nat) (x : Nat × Option Nat × pH), (∀ t, t ∈ l → t < T) → R_w P T K Y x.2.2 → R_w P T K Y (l.foldl (S_st ev S D ab) x).2.2 := by
  intro l
  induction l with
  | nil => intro x _ W; exact W
  | cons t l ih =>
    intro x hl W
    rw [List.foldl_cons]
    exact ih _ (fun t ht => hl t (List.mem_cons_of_mem _ ht)) (S_st_W (hl t List.mem_cons_self) W)
theorem foldl_le : ∀ (l : List Nat) (x : Nat × Option Nat × pH), x.1 ≤ D → (l.foldl (S_st ev S D ab) x).1 ≤ D := by
  intro l
  induction l with
  | nil => intro x h; exact h
  | cons t l ih =>
    intro x h
    rw [List.foldl_cons]
    exact ih _ (S_st_le h t)
theorem foldl_said : ∀ (l : List Nat) (x : Nat × Option Nat × pH), (∀ t, x.2.1 = some t → t < T) → (∀ t, t ∈ l → t < T) → ∀ t, (l.foldl (S_st ev S D ab) x).2.1 = some t → t < T := by
  intro l
  induction l with
  | nil => intro x h _; exact h
  | cons t l ih =>
    intro x h hl
    rw [List.foldl_cons]
    refine ih _ (fun u hu => ?_) (fun t ht => hl t (List.mem_cons_of_mem _ ht))
    unfold S_st at hu
    split at hu
    · exact h u hu
    · dsimp only at hu
      split at hu
      · cases hu
        exact hl _ List.mem_cons_self
      · cases hu
theorem take_snoc {r : List Nat} {k : Nat} (hk : k < r.length) : r.take (k + 1) = r.take k ++ [r.getD k 0] := by
  rw [List.take_succ, List.getD_eq_getElem?_getD, List.getElem?_eq_getElem hk]
  rfl
theorem take_notin {r : List Nat} (hr : r.Nodup) {k : Nat} (hk : k < r.length) : r.getD k 0 ∉ r.take k := by
  intro hm
  have h1 : (r.take (k + 1)).Nodup := hr.sublist (List.take_sublist _ _)
  rw [take_snoc hk, List.nodup_append] at h1
  exact h1.2.2 _ hm _ (List.mem_singleton.mpr rfl) rfl
theorem r_in_mem {T : Nat} (hr : r_in r T) : ∀ t, t ∈ r → t < T := by
  intro t ht
  obtain ⟨k, hk, e⟩ := List.mem_iff_getElem.mp ht
  have := hr k hk
  rw [List.getD_eq_getElem?_getD, List.getElem?_eq_getElem hk] at this
  rw [← e]
  exact this
/-- left, less what was used of each -/
def B_dec (S : pH) (r : List Nat) (us : Nat → Nat) : Nat → pH
  | 0 => S
  | k + 1 => px_w (B_dec S r us k) 4 (r.getD k 0) (nI (B_n (B_dec S r us k 4 (r.getD k 0)) - us k))
theorem B_dec_eq {us vs : Nat → Nat} : ∀ k, (∀ j, j < k → us j = vs j) → B_dec S r us k = B_dec S r vs k := by
  intro k
  induction k with
  | zero => intro _; rfl
  | succ k ih =>
    intro h
    show px_w (B_dec S r us k) 4 (r.getD k 0) (nI (B_n (B_dec S r us k 4 (r.getD k 0)) - us k)) = px_w (B_dec S r vs k) 4 (r.getD k 0) (nI (B_n (B_dec S r vs k 4 (r.getD k 0)) - vs k))
    rw [ih (fun j hj => h j (by omega)), h k (by omega)]
theorem B_dec_notin {us : Nat → Nat} {t : Nat} : ∀ k, k ≤ r.length → t ∉ r.take k → B_dec S r us k 4 t = S 4 t := by
  intro k
  induction k with
  | zero => intro _ _; rfl
  | succ k ih =>
    intro hk ht
    rw [take_snoc (by omega)] at ht
    show px_w (B_dec S r us k) 4 (r.getD k 0) _ 4 t = _
    rw [B_w_at, if_neg (fun q => ht (List.mem_append.mpr (Or.inr (List.mem_singleton.mpr q))))]
    exact ih (by omega) (fun q => ht (List.mem_append.mpr (Or.inl q)))
/-- what go() writes -/
def E_go : Nat → Nat → Bool := fun a k => match a with
  | 22 => [10, 11, 12, 13].contains k
  | 24 => true
  | a => E_k a k
theorem E_k_go : ∀ a k, E_k a k = true → E_go a k = true := fun a k e => by
  unfold E_go
  split
  · unfold E_k at e
    have := Nat.eq_of_beq_eq_true e
    subst this
    rfl
  · rfl
  · exact e
theorem E_go_sc : ∀ a k, E_go a k = true → B_sc a k = true := fun a k e => by
  unfold E_go at e
  split at e
  · have : k = 10 ∨ k = 11 ∨ k = 12 ∨ k = 13 := by simpa using e
    rcases this with rfl | rfl | rfl | rfl <;> rfl
  · rfl
  · exact E_k_sc _ _ e
theorem C_row.fr {h' : pH} (C : C_row h r) (x : B_fr E_go h h') : C_row h' r := ⟨by rw [x 22 5 rfl]; exact C.1, C.2.1, fun k hk => by rw [x 23 k rfl]; exact C.2.2 k hk⟩
theorem cr_go_loop (hD : D ≤ 60) (hp : p < 2 + K) (hb : b < 2) (hr : r_in r T) (hnd : r.Nodup) (W : R_w P T K Y S) : ∀ (m k n : Nat) (h : pH), k + m = r.length → m < n → C_h h P T K Y S ev → C_row h r → h 22 6 = ab → h 22 7 = nI p → h 22 8 = nI b → h 22 9 = nI D → h 22 10 = nI ((r.take k).foldl (S_st ev S D ab) (0, none, S)).1 → h 22 11 = S_enc ((r.take k).foldl (S_st ev S D ab) (0, none, S)).2.1 → (∀ j, j < k → h 24 j = nI (B_n (h 24 j)) ∧ B_n (h 24 j) ≤ B_n (S 4 (r.getD j 0))) → B_dec S r (fun j => B_n (h 24 j)) k = ((r.take k).foldl (S_st ev S D ab) (0, none, S)).2.2 → ∃ h', cr_go_12 n (nI k) h = some (0, h') ∧ B_fr E_go h h' ∧ h' 22 10 = nI (S_go ev S D ab r).1 ∧ h' 22 11 = S_enc (S_go ev S D ab r).2.1 ∧ h' 22 12 = S_pl S Y K p b (S_go ev S D ab r) ∧ (∀ j, j < r.length → h' 24 j = nI (B_n (h' 24 j)) ∧ B_n (h' 24 j) ≤ B_n (S 4 (r.getD j 0))) ∧ B_dec S r (fun j => B_n (h' 24 j)) r.length = (S_go ev S D ab r).2.2 := by
  intro m
  induction m with
  | zero =>
    intro k n h hk hn C Cr e6 e7 e8 e9 e10 e11 eu ed
    obtain ⟨n, rfl⟩ : ∃ n', n = n' + 1 := ⟨n - 1, by omega⟩
    have hkr : k = r.length := by omega
    subst hkr
    rw [List.take_length] at e10 e11 ed
    have lc : (r.foldl (S_st ev S D ab) (0, none, S)).1 ≤ D := foldl_le r _ (by show 0 ≤ D; omega)
    have hrl : r.length ≤ 6 := Cr.2.1
    refine ⟨px_w h 22 12 (S_pl S Y K p b (S_go ev S D ab r)), ?_, (B_fr.refl _ _).w rfl, ?_, ?_, B_w_same _ _ _ _, ?_, ?_⟩
    · have hz : cr_go_12 (n + 1) (nI r.length) h = (if h 22 11 = px_c (-1) then cr_go_163 (h 22 8) h else px_bind (rv_landing (h 22 7) (h 22 8) (h 22 10) h) fun z1 h2 => cr_go_163 z1 h2) := by
        show (if h 22 5 ≤ nI r.length then _ else _) = _
        rw [Cr.1, if_pos (nI_le (Nat.le_refl _) (by omega))]
      rw [hz, e11, bc_m1]
      unfold S_pl S_go
      cases hs : (r.foldl (S_st ev S D ab) (0, none, S)).2.1 with
      | none =>
        show (if (-1 : Int32) = -1 then _ else _) = _
        rw [if_pos rfl, e8]
        rfl
      | some t =>
        have ht : t < T := foldl_said r (0, none, S) (fun t q => by cases q) (r_in_mem hr) t hs
        have h10 := W.2.1
        show (if nI t = -1 then _ else _) = _
        rw [if_neg (fun q => by rw [bn_eqm (by omega)] at q; exact q), e7, e8, e10, rv_landing_s hp hb (by omega) C.1 W, B_bind]
        rfl
    · rw [B_w_at, if_neg (by decide)]
      exact e10
    · rw [B_w_at, if_neg (by decide)]
      exact e11
    · intro j hj
      rw [B_w_cell _ _ _ (show (24 : Nat) ≠ 22 by decide)]
      exact eu j hj
    · rw [B_w_cell _ _ _ (show (24 : Nat) ≠ 22 by decide)]
      exact ed
  | succ m ih =>
    intro k n h hk hn C Cr e6 e7 e8 e9 e10 e11 eu ed
    obtain ⟨n, rfl⟩ : ∃ n', n = n' + 1 := ⟨n - 1, by omega⟩
    have hkl : k < r.length := by omega
    have hrl : r.length ≤ 6 := Cr.2.1
    have h10 := W.2.1
    have et := Cr.2.2 k hkl
    have htT := hr k hkl
    have hni := take_notin hnd hkl
    have etk := take_snoc hkl
    have hw := B_lt_n (by omega) (W.2.2.2.2.2.2.2.2.1 _ htT)
    have c4 : h 8 (r.getD k 0) = nI (B_n (S 4 (r.getD k 0))) := by rw [← hw.2]; exact C.1.2.2.2.2.2.2.2.2.1 _ htT
    have hx4 : ((r.take k).foldl (S_st ev S D ab) (0, none, S)).2.2 4 (r.getD k 0) = S 4 (r.getD k 0) := foldl_ne (r.take k) (0, none, S) 4 (r.getD k 0) (fun q => hni q.2)
    have lc : ((r.take k).foldl (S_st ev S D ab) (0, none, S)).1 ≤ D := foldl_le _ _ (by show 0 ≤ D; omega)
    have hst : (r.take (k + 1)).foldl (S_st ev S D ab) (0, none, S) = S_st ev S D ab ((r.take k).foldl (S_st ev S D ab) (0, none, S)) (r.getD k 0) := by
      rw [etk, List.foldl_append]
      rfl
    have hZW : R_w P T K Y ((r.take k).foldl (S_st ev S D ab) (0, none, S)).2.2 := foldl_W _ _ (fun t ht => r_in_mem hr t (List.mem_of_mem_take ht)) W
    have hsd : ∀ t, ((r.take k).foldl (S_st ev S D ab) (0, none, S)).2.1 = some t → t < T := foldl_said _ _ (fun t q => by cases q) (fun t ht => r_in_mem hr t (List.mem_of_mem_take ht))
    generalize ((r.take k).foldl (S_st ev S D ab) (0, none, S)) = x at *
    generalize htt : r.getD k 0 = t at *
    generalize hLL : B_n (S 4 t) = L at *
    have hL : B_n (x.2.2 4 t) = L := by rw [hx4, hLL]
    -- the step, with most yards wanted
    have hstep : ∀ mo : Nat, mo ≤ L → (h 22 11 = -1 → mo = min L (D - x.1)) → (¬ h 22 11 = -1 → mo = 0) → cr_go_12 (n + 1) (nI k) h = cr_go_66 (cr_go_12 n) (nI k) (nI t) (nI L) (nI mo) h := by
      intro mo hmo h1 h2
      show (if h 22 5 ≤ nI k then _ else _) = _
      rw [Cr.1, if_neg (nI_ge (by omega) (by omega)), wa_23 (by omega), B_bind, et, wa_8 (by omega), B_bind, c4, bc_m1]
      by_cases q : h 22 11 = -1
      · rw [if_pos q, h1 q, e9, e10]
        have : nI D - nI x.1 = nI (D - x.1) := pk_sub lc
        rw [this, px_min_nI (by omega) (by omega)]
      · rw [if_neg q, h2 q, bc_0, nI_0]
    have hmore : ∀ mo : Nat, mo ≤ L → ∃ h3, cr_go_66 (cr_go_12 n) (nI k) (nI t) (nI L) (nI mo) h = cr_go_12 n (nI (k + 1)) h3 ∧ B_fr E_go h h3 ∧ h3 22 10 = nI (x.1 + B_first (S_bu ev S ab t L x.1) 0 mo) ∧ h3 22 11 = (if B_first (S_bu ev S ab t L x.1) 0 mo < mo then nI t else h 22 11) ∧ (∀ j, j ≠ k → h3 24 j = h 24 j) ∧ h3 24 k = nI (B_first (S_bu ev S ab t L x.1) 0 mo) := by
      intro mo hmo
      obtain ⟨h1, g1, g2, -⟩ := cr_kept_s (t := t) (L := L) (b := x.1) (m := mo) htT (by omega) (by omega) hmo e6 C W
      have hle := (B_first_le (S_bu ev S ab t L x.1) mo 0).2
      generalize B_first (S_bu ev S ab t L x.1) 0 mo = kk at *
      have F1 : B_fr E_go h (px_w (px_w h1 24 k (nI kk)) 22 10 (nI (x.1 + kk))) := ((g2.mono E_k_go).w rfl).w rfl
      have e10' : (px_w h1 24 k (nI kk)) 22 10 = nI x.1 := by rw [B_w_cell _ _ _ (by decide), g2 22 10 rfl, e10]
      have e11' : (px_w (px_w h1 24 k (nI kk)) 22 10 (nI (x.1 + kk))) 22 11 = h 22 11 := by rw [B_w_at, if_neg (by decide), B_w_cell _ _ _ (by decide), g2 22 11 rfl]
      refine ⟨px_w (px_w (px_w h1 24 k (nI kk)) 22 10 (nI (x.1 + kk))) 22 11 (if kk < mo then nI t else h 22 11), ?_, F1.w rfl, ?_, B_w_same _ _ _ _, fun j hj => ?_, ?_⟩
      · show px_bind (cr_kept (nI t) (nI L) (h 22 10) (nI mo) h) _ = _
        rw [e10, g1, B_bind, wp_24 (by omega), B_bind]
        show (if nI mo ≤ nI kk then cr_go_119 (cr_go_12 n) (nI k) ((px_w (px_w h1 24 k (nI kk)) 22 10 ((px_w h1 24 k (nI kk)) 22 10 + nI kk)) 22 11) (px_w (px_w h1 24 k (nI kk)) 22 10 ((px_w h1 24 k (nI kk)) 22 10 + nI kk)) else cr_go_119 (cr_go_12 n) (nI k) (nI t) (px_w (px_w h1 24 k (nI kk)) 22 10 ((px_w h1 24 k (nI kk)) 22 10 + nI kk))) = _
        rw [e10', nI_add, e11']
        by_cases q : kk < mo
        · rw [if_neg (nI_ge q (by omega)), if_pos q]
          unfold cr_go_119
          rw [bc_1, nI_add]
        · rw [if_pos (nI_le (by omega) (by omega)), if_neg q]
          unfold cr_go_119
          rw [bc_1, nI_add]
      · rw [B_w_at, if_neg (by decide), B_w_same]
      · rw [B_w_cell _ _ _ (show (24 : Nat) ≠ 22 by decide), B_w_cell _ _ _ (show (24 : Nat) ≠ 22 by decide), B_w_at, if_neg hj, g2 24 j rfl]
      · rw [B_w_cell _ _ _ (show (24 : Nat) ≠ 22 by decide), B_w_cell _ _ _ (show (24 : Nat) ≠ 22 by decide), B_w_same]
    have hfin : ∀ (mo : Nat) (h3 : pH), B_fr E_go h h3 → h3 22 10 = nI (S_st ev S D ab x t).1 → h3 22 11 = S_enc (S_st ev S D ab x t).2.1 → (∀ j, j ≠ k → h3 24 j = h 24 j) → ∀ kk, kk ≤ L → h3 24 k = nI kk → px_w x.2.2 4 t (nI (L - kk)) = (S_st ev S D ab x t).2.2 → ∃ h', cr_go_12 n (nI (k + 1)) h3 = some (0, h') ∧ B_fr E_go h h' ∧ h' 22 10 = nI (S_go ev S D ab r).1 ∧ h' 22 11 = S_enc (S_go ev S D ab r).2.1 ∧ h' 22 12 = S_pl S Y K p b (S_go ev S D ab r) ∧ (∀ j, j < r.length → h' 24 j = nI (B_n (h' 24 j)) ∧ B_n (h' 24 j) ≤ B_n (S 4 (r.getD j 0))) ∧ B_dec S r (fun j => B_n (h' 24 j)) r.length = (S_go ev S D ab r).2.2 := by
      intro mo h3 F3 f10 f11 f24 kk hkk fk fS
      have hd : B_dec S r (fun j => B_n (h3 24 j)) k = x.2.2 := by
        rw [← ed]
        exact B_dec_eq k (fun j hj => by rw [f24 j (by omega)])
      obtain ⟨h', i1, i2, i3⟩ := ih (k + 1) n h3 (by omega) (by omega) (C.fr (F3.mono E_go_sc)) (Cr.fr F3) (by rw [F3 22 6 rfl, e6]) (by rw [F3 22 7 rfl, e7]) (by rw [F3 22 8 rfl, e8]) (by rw [F3 22 9 rfl, e9]) (by rw [hst]; exact f10) (by rw [hst]; exact f11) (fun j hj => by
        by_cases q : j = k
        · subst q
          rw [fk, B_n_nI (by omega), htt, hLL]
          exact ⟨rfl, hkk⟩
        · rw [f24 j q]
          exact eu j (by omega)) (by
        rw [hst, ← fS]
        show px_w (B_dec S r (fun j => B_n (h3 24 j)) k) 4 (r.getD k 0) (nI (B_n (B_dec S r (fun j => B_n (h3 24 j)) k 4 (r.getD k 0)) - B_n (h3 24 k))) = _
        rw [hd, htt, hL, fk, B_n_nI (by omega)])
      exact ⟨h', i1, F3.trans i2, i3⟩
    cases hs : x.2.1 with
    | none =>
      rw [hs] at e11
      have e11' : h 22 11 = -1 := e11
      obtain ⟨h3, g1, g2, g3, g4, g5, g6⟩ := hmore (min L (D - x.1)) (by omega)
      have hle := (B_first_le (S_bu ev S ab t L x.1) (min L (D - x.1)) 0).2
      have hS : S_st ev S D ab x t = (x.1 + B_first (S_bu ev S ab t L x.1) 0 (min L (D - x.1)), if B_first (S_bu ev S ab t L x.1) 0 (min L (D - x.1)) < min L (D - x.1) then some t else none, px_w x.2.2 4 t (nI (L - B_first (S_bu ev S ab t L x.1) 0 (min L (D - x.1))))) := by
        unfold S_st
        rw [hs]
        try dsimp only
        rw [hL]
      rw [hstep (min L (D - x.1)) (by omega) (fun _ => rfl) (fun q => absurd e11' q), g1]
      refine hfin 0 h3 g2 (by rw [hS]; exact g3) ?_ g5 _ (by omega) g6 (by rw [hS])
      rw [g4, hS, e11']
      try dsimp only
      split
      · rfl
      · rfl
    | some u =>
      rw [hs] at e11
      have hS : S_st ev S D ab x t = x := by
        unfold S_st
        rw [hs]
      have hne : ¬ h 22 11 = -1 := by
        rw [e11]
        intro q
        have hu := hsd u hs
        have q' : nI u = -1 := q
        rw [bn_eqm (by omega)] at q'
        exact q'
      obtain ⟨h3, g1, g2, g3, g4, g5, g6⟩ := hmore 0 (by omega)
      have h0 : B_first (S_bu ev S ab t L x.1) 0 0 = 0 := rfl
      rw [h0] at g3 g4 g6
      rw [hstep 0 (by omega) (fun q => absurd q hne) (fun _ => rfl), g1]
      refine hfin 0 h3 g2 (by rw [hS]; exact g3) ?_ g5 0 (by omega) g6 ?_
      · rw [g4, hS, hs, if_neg (by omega), e11]
      · rw [hS]
        refine px_w_id ?_
        rw [hx4, hw.2, Nat.sub_zero]
end GO
