/-! Layer B: there and back, the least of them: the pure picture -/
section FIND
variable {ok : List Nat → Nat → Bool} {st : List Nat → Bool}
theorem L_fst_find {β : Type} (q : Nat → Option β) : ∀ m k, L_fst q k m = (List.range' k m).findSome? q := by
  intro m
  induction m with
  | zero => intro k; rfl
  | succ m ih =>
    intro k
    rw [List.range'_succ]
    unfold L_fst
    rw [List.findSome?_cons]
    cases q k with
    | some x => rfl
    | none => exact ih (k + 1)
theorem findSome_filter {β : Type} (p : Nat → Bool) (g : Nat → Option β) : ∀ l : List Nat, (l.filter p).findSome? g = l.findSome? (fun t => if p t = true then g t else none) := by
  intro l
  induction l with
  | nil => rfl
  | cons a l ih =>
    rw [List.findSome?_cons]
    by_cases c : p a = true
    · rw [List.filter_cons_of_pos c, List.findSome?_cons, if_pos c]
      cases g a with
      | some x => rfl
      | none => exact ih
    · rw [List.filter_cons_of_neg c, if_neg c]
      exact ih
theorem F_x_find : ∀ n r, F_x ok st n r = (R_el ok n r).find? st := by
  intro n
  induction n with
  | zero =>
    intro r
    unfold F_x R_el
    rw [List.find?_cons]
    cases st r <;> rfl
  | succ n ih =>
    intro r
    unfold F_x R_el
    rw [List.find?_flatMap, L_fst_find]
    unfold R_ch
    rw [findSome_filter, List.range_eq_range']
    congr 1
    funext t
    by_cases c : ok r t = true
    · rw [if_pos c, if_pos c]
      exact ih _
    · rw [if_neg c, if_neg c]
theorem R_el_ext : ∀ n r x, x ∈ R_el ok n r → ∃ s, x = r ++ s ∧ s.length = n := by
  intro n
  induction n with
  | zero =>
    intro r x h
    refine ⟨[], ?_, rfl⟩
    rw [List.append_nil]
    exact List.mem_singleton.mp h
  | succ n ih =>
    intro r x h
    unfold R_el at h
    rw [List.mem_flatMap] at h
    obtain ⟨t, ht, hx⟩ := h
    obtain ⟨s, e, l⟩ := ih _ _ hx
    exact ⟨t :: s, by rw [e, List.append_assoc]; rfl, by rw [List.length_cons, l]⟩
theorem R_el_len {n : Nat} {x : List Nat} (h : x ∈ R_el ok n []) : x.length = n := by
  obtain ⟨s, e, l⟩ := R_el_ext n [] x h
  rw [e]
  exact l
theorem R_el_sorted : ∀ n r, (R_el ok n r).Pairwise (fun a b => L_ls a b = true) := by
  intro n
  induction n with
  | zero => intro r; exact List.pairwise_singleton _ _
  | succ n ih =>
    intro r
    unfold R_el
    rw [List.pairwise_flatMap]
    refine ⟨fun t _ => ih _, ?_⟩
    have hp : (R_ch ok r).Pairwise (fun a b => a < b) := List.Pairwise.filter _ List.pairwise_lt_range
    refine hp.imp (fun {t u} htu x hx y hy => ?_)
    obtain ⟨s1, e1, _⟩ := R_el_ext _ _ x hx
    obtain ⟨s2, e2, _⟩ := R_el_ext _ _ y hy
    rw [e1, e2, List.append_assoc, List.append_assoc, L_ls_app]
    show L_ls (t :: s1) (u :: s2) = true
    rw [L_ls_cons, if_neg (by omega)]
    exact decide_eq_true htu
theorem find_first : ∀ (l : List (List Nat)) {x : List Nat}, l.Pairwise (fun a b => L_ls a b = true) → l.find? st = some x → st x = true ∧ x ∈ l ∧ ∀ y, y ∈ l → st y = true → x = y ∨ L_ls x y = true := by
  intro l
  induction l with
  | nil => intro x _ h; cases h
  | cons a l ih =>
    intro x hp h
    obtain ⟨p1, p2⟩ := List.pairwise_cons.mp hp
    rw [List.find?_cons] at h
    cases c : st a with
    | true =>
      rw [c] at h
      cases h
      refine ⟨c, List.mem_cons_self, fun y hy _ => ?_⟩
      rcases List.mem_cons.mp hy with e | e
      · exact Or.inl e.symm
      · exact Or.inr (p1 y e)
    | false =>
      rw [c] at h
      obtain ⟨i1, i2, i3⟩ := ih p2 h
      refine ⟨i1, List.mem_cons_of_mem _ i2, fun y hy hs => ?_⟩
      rcases List.mem_cons.mp hy with e | e
      · rw [e, c] at hs
        cases hs
      · exact i3 y e hs
theorem R_pl_mem {x : List Nat} : x ∈ R_pl ok 3 [] ↔ x ∈ R_el ok x.length [] ∧ 1 ≤ x.length ∧ x.length ≤ 3 := by
  rw [(R_pl_3 (ok := ok) []).mem_iff, List.mem_append, List.mem_append]
  constructor
  · rintro (h | h | h)
    · have l := R_el_len h
      rw [l]
      exact ⟨h, by omega, by omega⟩
    · have l := R_el_len h
      rw [l]
      exact ⟨h, by omega, by omega⟩
    · have l := R_el_len h
      rw [l]
      exact ⟨h, by omega, by omega⟩
  · rintro ⟨h, h1, h2⟩
    have : x.length = 1 ∨ x.length = 2 ∨ x.length = 3 := by omega
    rcases this with e | e | e
    · rw [e] at h
      exact Or.inl h
    · rw [e] at h
      exact Or.inr (Or.inl h)
    · rw [e] at h
      exact Or.inr (Or.inr h)
end FIND
section BACKP
abbrev K_T := Nat × Nat × List Nat × List Nat
variable {ov : List Nat → Bool} {hx : Nat → List Nat → Option (List Nat)} {ok : List Nat → Nat → Bool}
/-- the way home after r: the first of the shortest, of at most three -/
def K_hs (hx : Nat → List Nat → Option (List Nat)) (r : List Nat) : List Nat := (L_fst (fun n => hx (n + 1) r) 0 3).getD []
def K_bd (ov : List Nat → Bool) (hx : Nat → List Nat → Option (List Nat)) (r : List Nat) (a : K_T) : K_T := if ov r = true ∧ K_hs hx r ≠ [] ∧ r.length + (K_hs hx r).length + (if a.2.1 ≤ r.length then 1 else 0) ≤ a.1 then (r.length + (K_hs hx r).length, r.length, r, K_hs hx r) else a
theorem K_hs_of (hl : ∀ n r y, hx n r = some y → y.length = n) {r : List Nat} (h : K_hs hx r ≠ []) : 1 ≤ (K_hs hx r).length ∧ (K_hs hx r).length ≤ 3 ∧ hx (K_hs hx r).length r = some (K_hs hx r) ∧ ∀ m, 1 ≤ m → m < (K_hs hx r).length → hx m r = none := by
  unfold K_hs at h ⊢
  cases q : L_fst (fun n => hx (n + 1) r) 0 3 with
  | none => rw [q] at h; exact absurd rfl h
  | some y =>
    obtain ⟨j, _, h2, h3, h4⟩ := L_fst_some 3 0 q
    have e := hl _ _ _ h3
    show 1 ≤ y.length ∧ y.length ≤ 3 ∧ hx y.length r = some y ∧ _
    rw [e]
    refine ⟨by omega, by omega, h3, fun m h5 h6 => ?_⟩
    have := h4 (m - 1) (by omega) (by change m < y.length at h6; omega)
    rw [Nat.sub_add_cancel h5] at this
    exact this
theorem K_hs_le (hl : ∀ n r y, hx n r = some y → y.length = n) {r : List Nat} {m : Nat} (h1 : 1 ≤ m) (h3 : m ≤ 3) (h : (hx m r).isSome = true) : K_hs hx r ≠ [] ∧ (K_hs hx r).length ≤ m := by
  cases q : L_fst (fun n => hx (n + 1) r) 0 3 with
  | none =>
    have := L_fst_none_all 3 0 q (m - 1) (by omega) (by omega)
    rw [Nat.sub_add_cancel h1] at this
    rw [this] at h
    cases h
  | some y =>
    obtain ⟨j, _, h2, h3', h4⟩ := L_fst_some 3 0 q
    have e := hl _ _ _ h3'
    have ey : K_hs hx r = y := by
      unfold K_hs
      rw [q]
      rfl
    rw [ey]
    refine ⟨(fun w => by rw [w] at e; cases e), ?_⟩
    rw [e]
    by_cases c : m ≤ j
    · have := h4 (m - 1) (by omega) (by omega)
      rw [Nat.sub_add_cancel h1] at this
      rw [this] at h
      cases h
    · omega
theorem K_hs_room (hl : ∀ n r y, hx n r = some y → y.length = n) {r : List Nat} {l : Nat} (h : l ≤ 3) : (L_fst (fun n => hx (n + 1) r) 0 l).getD [] = if (K_hs hx r).length ≤ l then K_hs hx r else [] := by
  by_cases q : K_hs hx r = []
  · have hn : L_fst (fun n => hx (n + 1) r) 0 l = none := by
      refine L_fst_none _ _ (fun j _ hj => ?_)
      cases w : hx (j + 1) r with
      | none => rfl
      | some y => exact absurd q (K_hs_le hl (m := j + 1) (by omega) (by omega) (by rw [w]; rfl)).1
    rw [hn, q]
    split <;> rfl
  · obtain ⟨h1, h2, h3, h4⟩ := K_hs_of hl q
    by_cases c : (K_hs hx r).length ≤ l
    · rw [if_pos c, L_fst_at (j := (K_hs hx r).length - 1) l 0 (by omega) (by omega) (x := K_hs hx r) (by rw [Nat.sub_add_cancel h1]; exact h3) (fun i _ hi => h4 (i + 1) (by omega) (by omega))]
      rfl
    · rw [if_neg c, L_fst_none l 0 (fun j _ hj => h4 (j + 1) (by omega) (by omega))]
      rfl
def K_lt (hx : Nat → List Nat → Option (List Nat)) (r y : List Nat) : Prop := r.length + (K_hs hx r).length < y.length + (K_hs hx y).length ∨ (r.length + (K_hs hx r).length = y.length + (K_hs hx y).length ∧ (r.length < y.length ∨ (r.length = y.length ∧ (r = y ∨ L_ls r y = true))))
def K_sp (ov : List Nat → Bool) (hx : Nat → List Nat → Option (List Nat)) (done : List (List Nat)) (a : K_T) : Prop := (a = (7, 4, [], []) ∧ ∀ y, y ∈ done → ov y = true → K_hs hx y = []) ∨ ∃ r, r ∈ done ∧ ov r = true ∧ K_hs hx r ≠ [] ∧ a = (r.length + (K_hs hx r).length, r.length, r, K_hs hx r) ∧ ∀ y, y ∈ done → ov y = true → K_hs hx y ≠ [] → K_lt hx r y
theorem K_step (hl : ∀ n r y, hx n r = some y → y.length = n) {done : List (List Nat)} {a : K_T} {y : List Nat} (h : K_sp ov hx done a) (hs : ∀ x, x ∈ done → L_ls x y = true) (hy : y.length ≤ 3) : K_sp ov hx (done ++ [y]) (K_bd ov hx y a) := by
  by_cases c : ov y = true ∧ K_hs hx y ≠ []
  · obtain ⟨c1, c2⟩ := c
    obtain ⟨k1, k2, k3, k4⟩ := K_hs_of hl c2
    rcases h with ⟨h1, h2⟩ | ⟨r, h1, h2, h3, h4, h5⟩
    · right
      subst h1
      refine ⟨y, List.mem_append.mpr (Or.inr (List.mem_singleton.mpr rfl)), c1, c2, ?_, fun z hz z1 z2 => ?_⟩
      · unfold K_bd
        rw [if_pos ⟨c1, c2, by
          show _ + (if 4 ≤ y.length then 1 else 0) ≤ 7
          rw [if_neg (by omega)]
          omega⟩]
      · rcases List.mem_append.mp hz with w | w
        · exact absurd (h2 z w z1) z2
        · rw [List.mem_singleton.mp w]
          exact Or.inr ⟨rfl, Or.inr ⟨rfl, Or.inl rfl⟩⟩
    · right
      subst h4
      by_cases d : y.length + (K_hs hx y).length + (if r.length ≤ y.length then 1 else 0) ≤ r.length + (K_hs hx r).length
      · refine ⟨y, List.mem_append.mpr (Or.inr (List.mem_singleton.mpr rfl)), c1, c2, ?_, fun z hz z1 z2 => ?_⟩
        · unfold K_bd
          rw [if_pos ⟨c1, c2, d⟩]
        · rcases List.mem_append.mp hz with w | w
          · have := h5 z w z1 z2
            unfold K_lt at this ⊢
            by_cases e : r.length ≤ y.length
            · rw [if_pos e] at d
              left
              omega
            · rw [if_neg e] at d
              rcases this with this | ⟨t1, t2⟩
              · left
                omega
              · by_cases e2 : y.length + (K_hs hx y).length < r.length + (K_hs hx r).length
                · left
                  omega
                · right
                  refine ⟨by omega, Or.inl ?_⟩
                  rcases t2 with t2 | t2
                  · omega
                  · omega
          · rw [List.mem_singleton.mp w]
            exact Or.inr ⟨rfl, Or.inr ⟨rfl, Or.inl rfl⟩⟩
      · refine ⟨r, List.mem_append.mpr (Or.inl h1), h2, h3, ?_, fun z hz z1 z2 => ?_⟩
        · unfold K_bd
          rw [if_neg (fun w => d w.2.2)]
        · rcases List.mem_append.mp hz with w | w
          · exact h5 z w z1 z2
          · rw [List.mem_singleton.mp w]
            unfold K_lt
            by_cases e : r.length ≤ y.length
            · rw [if_pos e] at d
              by_cases e2 : r.length + (K_hs hx r).length < y.length + (K_hs hx y).length
              · exact Or.inl e2
              · right
                refine ⟨by omega, ?_⟩
                by_cases e3 : r.length < y.length
                · exact Or.inl e3
                · exact Or.inr ⟨by omega, Or.inr (hs r h1)⟩
            · rw [if_neg e] at d
              left
              omega
  · have e : K_bd ov hx y a = a := by
      unfold K_bd
      rw [if_neg (fun w => c ⟨w.1, w.2.1⟩)]
    rw [e]
    rcases h with ⟨h1, h2⟩ | ⟨r, h1, h2, h3, h4, h5⟩
    · left
      refine ⟨h1, fun z hz z1 => ?_⟩
      rcases List.mem_append.mp hz with w | w
      · exact h2 z w z1
      · rw [List.mem_singleton.mp w] at z1 ⊢
        by_cases q : K_hs hx y = []
        · exact q
        · exact absurd ⟨z1, q⟩ c
    · right
      refine ⟨r, List.mem_append.mpr (Or.inl h1), h2, h3, h4, fun z hz z1 z2 => ?_⟩
      rcases List.mem_append.mp hz with w | w
      · exact h5 z w z1 z2
      · rw [List.mem_singleton.mp w] at z1 z2
        exact absurd ⟨z1, z2⟩ c
theorem K_fold (hl : ∀ n r y, hx n r = some y → y.length = n) : ∀ (rest done : List (List Nat)) (a : K_T), K_sp ov hx done a → (∀ x, x ∈ done → ∀ y, y ∈ rest → L_ls x y = true) → rest.Pairwise (fun a b => L_ls a b = true) → (∀ y, y ∈ rest → y.length ≤ 3) → K_sp ov hx (done ++ rest) (rest.foldl (fun a r => K_bd ov hx r a) a) := by
  intro rest
  induction rest with
  | nil =>
    intro done a h _ _ _
    rw [List.append_nil]
    exact h
  | cons y rest ih =>
    intro done a h hs hp hy
    obtain ⟨p1, p2⟩ := List.pairwise_cons.mp hp
    have := ih (done ++ [y]) (K_bd ov hx y a) (K_step hl h (fun x hx => hs x hx y List.mem_cons_self) (hy y List.mem_cons_self)) (fun x hx z hz => by
      rcases List.mem_append.mp hx with w | w
      · exact hs x w z (List.mem_cons_of_mem _ hz)
      · rw [List.mem_singleton.mp w]
        exact p1 z hz) p2 (fun z hz => hy z (List.mem_cons_of_mem _ hz))
    rw [List.append_assoc] at this
    exact this
/-- the reference: by how many in all, by how many there -/
def K_st (ov : List Nat → Bool) (hx : Nat → List Nat → Option (List Nat)) (hm : Nat) (r : List Nat) : Bool := ov r && (hx hm r).isSome
def K_r (ok : List Nat → Nat → Bool) (ov : List Nat → Bool) (hx : Nat → List Nat → Option (List Nat)) (all many : Nat) : Option (List Nat) := if many + 1 ≤ all ∧ all ≤ many + 3 then F_x ok (K_st ov hx (all - many)) many [] else none
def K_rr (ok : List Nat → Nat → Bool) (ov : List Nat → Bool) (hx : Nat → List Nat → Option (List Nat)) (all : Nat) : Option (Nat × Nat × List Nat) := L_fst (fun m => (K_r ok ov hx all (m + 1)).map (fun r => (all, m + 1, r))) 0 3
def K_ref (ok : List Nat → Nat → Bool) (ov : List Nat → Bool) (hx : Nat → List Nat → Option (List Nat)) : Option (Nat × Nat × List Nat) := L_fst (fun a => K_rr ok ov hx (a + 2)) 0 5
theorem K_r_none {all many : Nat} {r : List Nat} (h : K_r ok ov hx all many = none) (h1 : r ∈ R_el ok many []) (h2 : ov r = true) (h3 : many + 1 ≤ all ∧ all ≤ many + 3) : hx (all - many) r = none := by
  unfold K_r at h
  rw [if_pos h3, F_x_find, List.find?_eq_none] at h
  have := h r h1
  unfold K_st at this
  rw [h2, Bool.true_and] at this
  cases w : hx (all - many) r with
  | none => rfl
  | some y => rw [w] at this; exact absurd rfl this
theorem K_rr_none {all : Nat} (h : K_rr ok ov hx all = none) {m : Nat} (h1 : 1 ≤ m) (h3 : m ≤ 3) : K_r ok ov hx all m = none := by
  have := L_fst_none_all 3 0 h (m - 1) (by omega) (by omega)
  rw [Nat.sub_add_cancel h1] at this
  cases w : K_r ok ov hx all m with
  | none => rfl
  | some x => rw [w] at this; cases this
theorem K_eq (hl : ∀ n r y, hx n r = some y → y.length = n) {x : K_T} (h : K_sp ov hx (R_pl ok 3 []) x) : match K_ref ok ov hx with
    | none => x = (7, 4, [], [])
    | some (all, many, r) => x = (all, many, r, K_hs hx r) ∧ r.length = many ∧ (K_hs hx r).length = all - many ∧ many + 1 ≤ all ∧ all ≤ many + 3 ∧ many ≤ 3 ∧ 1 ≤ many ∧ r ∈ R_el ok many [] := by
  have hcand : ∀ r, r ∈ R_pl ok 3 [] → ov r = true → K_hs hx r ≠ [] → K_r ok ov hx (r.length + (K_hs hx r).length) r.length = none → False := by
    intro r hr h1 h2 h3
    obtain ⟨m1, m2, m3⟩ := R_pl_mem.mp hr
    obtain ⟨k1, k2, k3, k4⟩ := K_hs_of hl h2
    have := K_r_none h3 m1 h1 (by omega)
    rw [Nat.add_sub_cancel_left, k3] at this
    cases this
  cases q : K_ref ok ov hx with
  | none =>
    show x = (7, 4, [], [])
    rcases h with ⟨h1, -⟩ | ⟨r, h1, h2, h3, h4, h5⟩
    · exact h1
    · exfalso
      obtain ⟨m1, m2, m3⟩ := R_pl_mem.mp h1
      obtain ⟨k1, k2, k3, k4⟩ := K_hs_of hl h3
      have e := L_fst_none_all 5 0 q (r.length + (K_hs hx r).length - 2) (by omega) (by omega)
      rw [Nat.sub_add_cancel (by omega)] at e
      exact hcand r h1 h2 h3 (K_rr_none e m2 m3)
  | some z =>
    obtain ⟨j, _, j2, j3, j4⟩ := L_fst_some 5 0 q
    obtain ⟨i, _, i2, i3, i4⟩ := L_fst_some 3 0 j3
    cases w : K_r ok ov hx (j + 2) (i + 1) with
    | none => rw [w] at i3; cases i3
    | some r =>
      rw [w] at i3
      cases i3
      show x = (j + 2, i + 1, r, K_hs hx r) ∧ _
      have w2 := w
      unfold K_r at w2
      by_cases c : i + 1 + 1 ≤ j + 2 ∧ j + 2 ≤ i + 1 + 3
      · rw [if_pos c, F_x_find] at w2
        obtain ⟨f1, f2, f3⟩ := find_first _ (R_el_sorted _ _) w2
        have fl := R_el_len f2
        unfold K_st at f1
        rw [Bool.and_eq_true] at f1
        obtain ⟨n1, n2⟩ := K_hs_le hl (by omega) (by omega) f1.2
        obtain ⟨k1, k2, k3, k4⟩ := K_hs_of hl n1
        have hrp : r ∈ R_pl ok 3 [] := R_pl_mem.mpr ⟨by rw [fl]; exact f2, by omega, by omega⟩
        have early : ∀ y, y ∈ R_pl ok 3 [] → ov y = true → K_hs hx y ≠ [] → y.length + (K_hs hx y).length < j + 2 → False := by
          intro y y1 y2 y3 y4
          obtain ⟨m1, m2, m3⟩ := R_pl_mem.mp y1
          obtain ⟨l1, l2, l3, l4⟩ := K_hs_of hl y3
          have e := j4 (y.length + (K_hs hx y).length - 2) (by omega) (by omega)
          rw [Nat.sub_add_cancel (by omega)] at e
          exact hcand y y1 y2 y3 (K_rr_none e m2 m3)
        have hk : (K_hs hx r).length = j + 2 - (i + 1) := by
          by_cases e : (K_hs hx r).length = j + 2 - (i + 1)
          · exact e
          · exact absurd (early r hrp f1.1 n1 (by omega)) (fun w => w)
        refine ⟨?_, fl, hk, by omega, by omega, by omega, by omega, f2⟩
        rcases h with ⟨h1, h2⟩ | ⟨r0, h1, h2, h3, h4, h5⟩
        · exact absurd (h2 r hrp f1.1) n1
        · have hlt := h5 r hrp f1.1 n1
          have hge : ¬ r0.length + (K_hs hx r0).length < j + 2 := fun w => early r0 h1 h2 h3 w
          obtain ⟨m1, m2, m3⟩ := R_pl_mem.mp h1
          obtain ⟨l1, l2, l3, l4⟩ := K_hs_of hl h3
          have htot : r0.length + (K_hs hx r0).length = j + 2 := by
            rcases hlt with t | ⟨t, -⟩
            · omega
            · omega
          have hsz : ¬ r0.length < i + 1 := by
            intro e
            have e2 := i4 (r0.length - 1) (by omega) (by omega)
            rw [Nat.sub_add_cancel m2, ← htot] at e2
            refine hcand r0 h1 h2 h3 ?_
            cases w3 : K_r ok ov hx (r0.length + (K_hs hx r0).length) r0.length with
            | none => rfl
            | some z => rw [w3] at e2; cases e2
          have hrr : r0 = r := by
            rcases hlt with t | ⟨t, t2⟩
            · omega
            · rcases t2 with t2 | ⟨t2, t3⟩
              · omega
              · rcases t3 with t3 | t3
                · exact t3
                · have e0 : r0 ∈ R_el ok (i + 1) [] := by
                    rw [show i + 1 = r0.length by omega]
                    exact m1
                  rcases f3 r0 e0 (by
                    unfold K_st
                    rw [h2, show j + 2 - (i + 1) = (K_hs hx r0).length by omega, l3]
                    rfl) with u | u
                  · exact u.symm
                  · rw [L_ls_asym _ _ u] at t3
                    cases t3
          rw [h4, hrr, fl, hk]
          rw [show i + 1 + (j + 2 - (i + 1)) = j + 2 by omega]
      · rw [if_neg c] at w2
        cases w2
end BACKP
