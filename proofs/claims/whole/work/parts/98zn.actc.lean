/-! Layer B: day: an act of the text, one side -/
abbrev dA : Type := Nat × Nat × Int32 × Nat × List Nat
abbrev dT : Type := dA × Nat × Option Nat
def d_no (f : Nat) : dT := ((0, 0, 0, 0, []), 0, some f)
def S_lq (sg : Nat → Nat) (m k : Nat) : Bool := decide (k < m) && (decide (113 ≤ sg k) && decide (sg k < 123))
def S_ql (sg : Nat → Nat) (m : Nat) : Nat → Nat → List Nat
  | 0, _ => []
  | d + 1, k => if S_lq sg m k = true then (sg k - 113) :: S_ql sg m d (k + 1) else []
def S_acr (sg : Nat → Nat) (m p : Nat) (o : Int32) (j : Nat) : dT := if S_o1 sg m 0 1 j = true then (if j + 1 < m ∧ sg (j + 1) = 58 then (if S_ql sg m 6 (j + 2) = [] then d_no (j + 2) else ((99, p, o, sg j - 48, S_ql sg m 6 (j + 2)), j + 2 + (S_ql sg m 6 (j + 2)).length, none)) else d_no (j + 1)) else d_no j
def S_act1 (sg : Nat → Nat) (m k : Nat) : dT := if k < m ∧ (sg k = 99 ∨ sg k = 115 ∨ sg k = 118 ∨ sg k = 119) then (if S_lt sg m 6 (k + 1) = true then (if sg k = 99 then (if k + 2 < m ∧ sg (k + 2) = 43 then (if S_lt sg m 6 (k + 3) = true ∧ ¬ sg (k + 3) - 97 = sg (k + 1) - 97 then S_acr sg m (sg (k + 1) - 97) (nI (sg (k + 3) - 97)) (k + 4) else d_no (k + 3)) else S_acr sg m (sg (k + 1) - 97) (-1) (k + 2)) else if sg k = 115 then (if S_lq sg m (k + 2) = true then ((115, sg (k + 1) - 97, nI (sg (k + 1) - 97), sg (k + 2) - 113, []), k + 3, none) else d_no (k + 2)) else (if S_lt sg m 6 (k + 2) = true then (if S_lq sg m (k + 3) = true then ((sg k, sg (k + 1) - 97, nI (sg (k + 2) - 97), sg (k + 3) - 113, []), k + 4, none) else d_no (k + 3)) else d_no (k + 2))) else d_no (k + 1)) else d_no k
/-- an act that can be told -/
def d_ok (a : dA) : Prop := (a.1 = 99 ∨ a.1 = 115 ∨ a.1 = 118 ∨ a.1 = 119) ∧ a.2.1 < 6 ∧ a.2.2.2.1 < 10 ∧ (a.1 = 99 → a.2.2.2.1 < 2) ∧ (a.2.2.1 = -1 ∨ B_lt a.2.2.1 6) ∧ a.2.2.2.2.length ≤ 6 ∧ ∀ i, i < a.2.2.2.2.length → a.2.2.2.2.getD i 0 < 10
section ACTS
variable {n m k : Nat} {sg : Nat → Nat}
theorem S_lq_lt (q : S_lq sg m k = true) : k < m ∧ 113 ≤ sg k ∧ sg k < 123 := by
  unfold S_lq at q
  simp only [Bool.and_eq_true, decide_eq_true_eq] at q
  exact q
theorem S_ql_ok : ∀ (d k : Nat), k ≤ m → (S_ql sg m d k).length ≤ d ∧ k + (S_ql sg m d k).length ≤ m ∧ ∀ i, i < (S_ql sg m d k).length → (S_ql sg m d k).getD i 0 < 10 := by
  intro d
  induction d with
  | zero => intro k hk; exact ⟨Nat.le_refl _, hk, fun i hi => absurd hi (by simp [S_ql])⟩
  | succ d ih =>
    intro k hk
    unfold S_ql
    by_cases q : S_lq sg m k = true
    · have hq := S_lq_lt q
      rw [if_pos q]
      obtain ⟨i1, i2, i3⟩ := ih (k + 1) (by omega)
      refine ⟨by rw [List.length_cons]; omega, by rw [List.length_cons]; omega, fun i hi => ?_⟩
      cases i with
      | zero => show sg k - 113 < 10; omega
      | succ i =>
        rw [List.length_cons] at hi
        exact i3 i (by omega)
    · rw [if_neg q]
      exact ⟨Nat.zero_le _, hk, fun i hi => absurd hi (by simp)⟩
theorem S_acr_ok {p j : Nat} {o : Int32} (h : (S_acr sg m p o j).2.2 = none) (hp : p < 6) (ho : o = -1 ∨ B_lt o 6) : d_ok (S_acr sg m p o j).1 ∧ j + 3 ≤ (S_acr sg m p o j).2.1 ∧ (S_acr sg m p o j).2.1 ≤ m := by
  unfold S_acr at h ⊢
  by_cases q : S_o1 sg m 0 1 j = true
  · rw [if_pos q] at h ⊢
    have hq := S_o1_lt q
    by_cases w : j + 1 < m ∧ sg (j + 1) = 58
    · rw [if_pos w] at h ⊢
      by_cases z : S_ql sg m 6 (j + 2) = []
      · rw [if_pos z] at h
        cases h
      · rw [if_neg z] at h ⊢
        obtain ⟨l1, l2, l3⟩ := S_ql_ok (sg := sg) (m := m) 6 (j + 2) (by omega)
        have l0 : 0 < (S_ql sg m 6 (j + 2)).length := by
          cases hl : S_ql sg m 6 (j + 2) with
          | nil => exact absurd hl z
          | cons a l => rw [List.length_cons]; omega
        exact ⟨⟨Or.inl rfl, hp, by show sg j - 48 < 10; omega, fun _ => by show sg j - 48 < 2; omega, ho, l1, l3⟩, by show j + 3 ≤ j + 2 + _; omega, l2⟩
    · rw [if_neg w] at h
      cases h
  · rw [if_neg q] at h
    cases h
theorem S_act1_ok (h : (S_act1 sg m k).2.2 = none) : d_ok (S_act1 sg m k).1 ∧ k + 3 ≤ (S_act1 sg m k).2.1 ∧ (S_act1 sg m k).2.1 ≤ m := by
  unfold S_act1 at h ⊢
  by_cases q : k < m ∧ (sg k = 99 ∨ sg k = 115 ∨ sg k = 118 ∨ sg k = 119)
  · rw [if_pos q] at h ⊢
    by_cases q1 : S_lt sg m 6 (k + 1) = true
    · rw [if_pos q1] at h ⊢
      have hq1 := S_lt_lt q1
      by_cases q2 : sg k = 99
      · rw [if_pos q2] at h ⊢
        by_cases q3 : k + 2 < m ∧ sg (k + 2) = 43
        · rw [if_pos q3] at h ⊢
          by_cases q4 : S_lt sg m 6 (k + 3) = true ∧ ¬ sg (k + 3) - 97 = sg (k + 1) - 97
          · rw [if_pos q4] at h ⊢
            have hq4 := S_lt_lt q4.1
            obtain ⟨c1, c2, c3⟩ := S_acr_ok h (by omega) (Or.inr ⟨_, by omega, rfl⟩)
            exact ⟨c1, by omega, c3⟩
          · rw [if_neg q4] at h
            cases h
        · rw [if_neg q3] at h ⊢
          obtain ⟨c1, c2, c3⟩ := S_acr_ok h (by omega) (Or.inl rfl)
          exact ⟨c1, by omega, c3⟩
      · rw [if_neg q2] at h ⊢
        by_cases q3 : sg k = 115
        · rw [if_pos q3] at h ⊢
          by_cases q4 : S_lq sg m (k + 2) = true
          · rw [if_pos q4]
            have hq4 := S_lq_lt q4
            exact ⟨⟨Or.inr (Or.inl rfl), by show sg (k + 1) - 97 < 6; omega, by show sg (k + 2) - 113 < 10; omega, (fun e => by cases e), Or.inr ⟨_, by omega, rfl⟩, Nat.zero_le _, fun i hi => absurd hi (by simp)⟩, Nat.le_refl _, by show k + 3 ≤ m; omega⟩
          · rw [if_neg q4] at h
            cases h
        · rw [if_neg q3] at h ⊢
          by_cases q4 : S_lt sg m 6 (k + 2) = true
          · rw [if_pos q4] at h ⊢
            have hq4 := S_lt_lt q4
            by_cases q5 : S_lq sg m (k + 3) = true
            · rw [if_pos q5]
              have hq5 := S_lq_lt q5
              exact ⟨⟨by show sg k = 99 ∨ _; exact q.2, by show sg (k + 1) - 97 < 6; omega, by show sg (k + 3) - 113 < 10; omega, fun e => absurd e q2, Or.inr ⟨_, by omega, rfl⟩, Nat.zero_le _, fun i hi => absurd hi (by simp)⟩, by show k + 3 ≤ k + 4; omega, by show k + 4 ≤ m; omega⟩
            · rw [if_neg q5] at h
              cases h
          · rw [if_neg q4] at h
            cases h
    · rw [if_neg q1] at h
      cases h
  · rw [if_neg q] at h
    cases h
theorem S_acr_f {p j f : Nat} {o : Int32} (hj : j ≤ m) (h : (S_acr sg m p o j).2.2 = some f) : f ≤ m := by
  unfold S_acr d_no at h
  by_cases q : S_o1 sg m 0 1 j = true
  · rw [if_pos q] at h
    have hq := S_o1_lt q
    by_cases w : j + 1 < m ∧ sg (j + 1) = 58
    · rw [if_pos w] at h
      by_cases z : S_ql sg m 6 (j + 2) = []
      · rw [if_pos z] at h
        cases h
        omega
      · rw [if_neg z] at h
        cases h
    · rw [if_neg w] at h
      cases h
      omega
  · rw [if_neg q] at h
    cases h
    omega
theorem S_act1_f {f : Nat} (hk : k ≤ m) (h : (S_act1 sg m k).2.2 = some f) : f ≤ m := by
  unfold S_act1 at h
  by_cases q : k < m ∧ (sg k = 99 ∨ sg k = 115 ∨ sg k = 118 ∨ sg k = 119)
  · rw [if_pos q] at h
    by_cases q1 : S_lt sg m 6 (k + 1) = true
    · rw [if_pos q1] at h
      have hq1 := S_lt_lt q1
      by_cases q2 : sg k = 99
      · rw [if_pos q2] at h
        by_cases q3 : k + 2 < m ∧ sg (k + 2) = 43
        · rw [if_pos q3] at h
          by_cases q4 : S_lt sg m 6 (k + 3) = true ∧ ¬ sg (k + 3) - 97 = sg (k + 1) - 97
          · rw [if_pos q4] at h
            have hq4 := S_lt_lt q4.1
            exact S_acr_f (by omega) h
          · rw [if_neg q4] at h
            cases h
            omega
        · rw [if_neg q3] at h
          exact S_acr_f (by omega) h
      · rw [if_neg q2] at h
        by_cases q3 : sg k = 115
        · rw [if_pos q3] at h
          by_cases q4 : S_lq sg m (k + 2) = true
          · rw [if_pos q4] at h
            cases h
          · rw [if_neg q4] at h
            cases h
            omega
        · rw [if_neg q3] at h
          by_cases q4 : S_lt sg m 6 (k + 2) = true
          · rw [if_pos q4] at h
            have hq4 := S_lt_lt q4
            by_cases q5 : S_lq sg m (k + 3) = true
            · rw [if_pos q5] at h
              cases h
            · rw [if_neg q5] at h
              cases h
              omega
          · rw [if_neg q4] at h
            cases h
            omega
    · rw [if_neg q1] at h
      cases h
      omega
  · rw [if_neg q] at h
    cases h
    omega
/-! one side -/
def E_act : Nat → Nat → Bool := fun a k => match a with
  | 1 => [2, 3, 4].contains k
  | 43 => true
  | 44 => true
  | _ => false
theorem E_tx_act : ∀ a k, E_tx a k = true → E_act a k = true := fun a k e => by
  unfold E_tx at e
  split at e
  · exact e
  · cases e
theorem tx_letter_q {h : pH} (C : C_rd h n m k sg) (hm : m ≤ n) (hn : n ≤ 80) (hk : k ≤ m) (hs : ∀ j, j < n → sg j < 256) : tx_letter (nI 113) (nI 10) h = if S_lq sg m k = true then some (nI (sg k - 113), px_w h 1 2 (nI (k + 1))) else some (-1, px_w h 1 4 (nI k)) := by
  have e16 : tx_letter_16 h = some (-1, px_w h 1 4 (nI k)) := by
    unfold tx_letter_16 tx_refuse
    dsimp only
    rw [C.2.1, bc_0, B_bz0, B_bind, bc_m1]
  unfold tx_letter
  rw [tx_next_s C hm hn hk, B_bind, e16]
  dsimp only
  rw [C.2.1, bc_1, nI_add]
  unfold S_nxt S_lq
  by_cases q : k < m
  · have := hs k (by omega)
    rw [if_pos q, decide_eq_true q, Bool.true_and]
    by_cases w : 113 ≤ sg k
    · rw [decide_eq_true w, Bool.true_and, pk_sub w, if_neg (nI_pos (by omega))]
      by_cases z : sg k < 123
      · rw [if_pos (nI_lt (by omega) (by omega)), decide_eq_true z, if_pos rfl]
      · rw [if_neg (nI_nlt (by omega) (by omega)), decide_eq_false z, if_neg (by decide)]
    · have hd : ∀ x, x < 113 → (nI x - nI 113 < 0) := by decide +kernel
      rw [if_pos (hd _ (by omega)), decide_eq_false w, Bool.false_and, if_neg (by decide)]
  · rw [if_neg q, decide_eq_false q, Bool.false_and, if_pos (by decide), if_neg (by decide)]
theorem ac_readThings_7_s (hm : m ≤ n) (hn : n ≤ 80) (hs : ∀ j, j < n → sg j < 256) : ∀ (d j k g : Nat) (h : pH), j + d = 6 → d < g → k ≤ m → C_rd h n m k sg → h 43 1 = nI j → ∃ h', ac_readThings_7 g (nI j) h = ac_readThings_63 h' ∧ C_rd h' n m (k + (S_ql sg m d k).length) sg ∧ h' 43 1 = nI (j + (S_ql sg m d k).length) ∧ (∀ i, i < (S_ql sg m d k).length → h' 44 (j + i) = nI ((S_ql sg m d k).getD i 0)) ∧ (∀ i, i < j → h' 44 i = h 44 i) ∧ (∀ i, i ≠ 1 → h' 43 i = h 43 i) ∧ B_fr E_act h h' := by
  intro d
  induction d with
  | zero =>
    intro j k g h hj hg hk C e1
    obtain ⟨g, rfl⟩ : ∃ n', g = n' + 1 := ⟨g - 1, by omega⟩
    refine ⟨h, ?_, C, e1, fun i hi => absurd hi (by simp [S_ql]), fun _ _ => rfl, fun _ _ => rfl, B_fr.refl _ _⟩
    show (if px_c 6 ≤ nI j then _ else _) = _
    rw [bc_6, if_pos (nI_le (by omega) (by omega))]
  | succ d ih =>
    intro j k g h hj hg hk C e1
    obtain ⟨g, rfl⟩ : ∃ n', g = n' + 1 := ⟨g - 1, by omega⟩
    have hd : ∀ x, x < 113 → (nI x - nI 113 < 0) := by decide +kernel
    unfold S_ql
    by_cases q : S_lq sg m k = true
    · have hq := S_lq_lt q
      rw [if_pos q]
      have hnx : S_nxt sg m k = nI (sg k) := if_pos hq.1
      generalize hH : px_w (px_w (px_w h 44 j (nI (sg k - 113))) 1 2 (nI (k + 1))) 43 1 (nI (j + 1)) = h2
      have F2 : B_fr E_act h h2 := by
        rw [← hH]
        exact (((B_fr.refl _ h).w rfl).w rfl).w rfl
      have C2 : C_rd h2 n m (k + 1) sg := by
        obtain ⟨c1, c2, c3, c4⟩ := C
        rw [← hH]
        exact ⟨by rw [B_w_cell _ _ _ (by decide), B_w_at, if_neg (by decide), B_w_cell _ _ _ (by decide), c1], by rw [B_w_cell _ _ _ (by decide), B_w_same], by rw [B_w_cell _ _ _ (by decide), B_w_at, if_neg (by decide), B_w_cell _ _ _ (by decide), c3], fun i hi => by rw [B_w_cell _ _ _ (by decide), B_w_cell _ _ _ (by decide), B_w_cell _ _ _ (by decide)]; exact c4 i hi⟩
      have hz : ac_readThings_7 (g + 1) (nI j) h = ac_readThings_7 g (nI (j + 1)) h2 := by
        show (if px_c 6 ≤ nI j then _ else _) = _
        rw [bc_6, if_neg (nI_ge (by omega) (by omega)), tx_next_s C hm hn hk, B_bind, hnx, bc_113, pk_sub (by omega)]
        dsimp only
        rw [if_neg (nI_pos (by omega)), bc_10, if_pos (nI_lt (by omega) (by omega)), wp_44 (by omega), B_bind]
        unfold tx_skip
        dsimp only
        rw [B_w_cell _ _ _ (show (1 : Nat) ≠ 44 by decide), C.2.1, bc_1, nI_add, B_bind, B_w_cell _ _ _ (show (43 : Nat) ≠ 1 by decide), B_w_cell _ _ _ (show (43 : Nat) ≠ 44 by decide), e1, nI_add, hH]
      obtain ⟨h', a1, a2, a3, a4, a5, a6, a7⟩ := ih (j + 1) (k + 1) g h2 (by omega) (by omega) (by omega) C2 (by rw [← hH, B_w_same])
      refine ⟨h', by rw [hz, a1], ?_, ?_, fun i hi => ?_, fun i hi => ?_, fun i hi => ?_, F2.trans a7⟩
      · rw [List.length_cons, show k + ((S_ql sg m d (k + 1)).length + 1) = k + 1 + (S_ql sg m d (k + 1)).length by omega]
        exact a2
      · rw [List.length_cons, show j + ((S_ql sg m d (k + 1)).length + 1) = j + 1 + (S_ql sg m d (k + 1)).length by omega]
        exact a3
      · cases i with
        | zero =>
          rw [Nat.add_zero, a5 j (by omega), ← hH, B_w_cell _ _ _ (by decide), B_w_cell _ _ _ (by decide), B_w_same]
          rfl
        | succ i =>
          rw [List.length_cons] at hi
          rw [show j + (i + 1) = j + 1 + i by omega]
          exact a4 i (by omega)
      · rw [a5 i (by omega), ← hH, B_w_cell _ _ _ (by decide), B_w_cell _ _ _ (by decide), B_w_at, if_neg (by omega)]
      · rw [a6 i hi, ← hH, B_w_at, if_neg hi, B_w_cell _ _ _ (by decide), B_w_cell _ _ _ (by decide)]
    · rw [if_neg q]
      refine ⟨h, ?_, C, e1, fun i hi => absurd hi (by simp), fun _ _ => rfl, fun _ _ => rfl, B_fr.refl _ _⟩
      show (if px_c 6 ≤ nI j then _ else _) = _
      rw [bc_6, if_neg (nI_ge (by omega) (by omega)), tx_next_s C hm hn hk, B_bind, bc_113, bc_10]
      dsimp only
      unfold S_nxt
      by_cases w : k < m
      · have := hs k (by omega)
        rw [if_pos w]
        by_cases z : 113 ≤ sg k
        · have z2 : ¬ sg k < 123 := fun e => q (by
            unfold S_lq
            rw [decide_eq_true w, decide_eq_true z, decide_eq_true e]
            rfl)
          rw [pk_sub z, if_neg (nI_pos (by omega)), if_neg (nI_nlt (by omega) (by omega))]
        · rw [if_pos (hd _ (by omega))]
      · rw [if_neg w, if_pos (by decide)]
/-- what the act's cells tell -/
def C_act (h : pH) (a : dA) : Prop := h 43 2 = nI a.1 ∧ h 43 3 = nI a.2.1 ∧ h 43 4 = a.2.2.1 ∧ (a.1 = 99 → h 43 5 = nI a.2.2.2.1 ∧ h 43 1 = nI a.2.2.2.2.length ∧ ∀ i, i < a.2.2.2.2.length → h 44 i = nI (a.2.2.2.2.getD i 0)) ∧ (¬ a.1 = 99 → h 43 6 = nI a.2.2.2.1)
def C_az (h h' : pH) (r : Int32) (n m : Nat) (sg : Nat → Nat) (t : dT) : Prop := r = (if t.2.2 = none then nI 1 else 0) ∧ (t.2.2 = none → C_rd h' n m t.2.1 sg ∧ C_act h' t.1) ∧ (∀ f, t.2.2 = some f → h' 1 4 = nI f) ∧ B_fr E_act h h'
theorem C_az.fr {h0 h h' : pH} {r : Int32} {t : dT} (F : B_fr E_act h0 h) (z : C_az h h' r n m sg t) : C_az h0 h' r n m sg t := ⟨z.1, z.2.1, z.2.2.1, F.trans z.2.2.2⟩
theorem C_az.no {h h' : pH} {f : Nat} (e : h' 1 4 = nI f) (F : B_fr E_act h h') : C_az h h' 0 n m sg (d_no f) := ⟨rfl, (fun w => by cases w), (fun f' w => by cases w; exact e), F⟩
theorem C_rd.c43 {h : pH} (C : C_rd h n m k sg) (j : Nat) (v : Int32) : C_rd (px_w h 43 j v) n m k sg := by
  obtain ⟨c1, c2, c3, c4⟩ := C
  exact ⟨by rw [B_w_cell _ _ _ (by decide), c1], by rw [B_w_cell _ _ _ (by decide), c2], by rw [B_w_cell _ _ _ (by decide), c3], fun i hi => by rw [B_w_cell _ _ _ (by decide)]; exact c4 i hi⟩
theorem ac_readCrossing_52_s {h : pH} {p : Nat} {o : Int32} (hm : m ≤ n) (hn : n ≤ 80) (hk : k ≤ m) (hs : ∀ j, j < n → sg j < 256) (C : C_rd h n m k sg) (e2 : h 43 2 = nI 99) (e3 : h 43 3 = nI p) (e4 : h 43 4 = o) : ∃ r h', ac_readCrossing_52 h = some (r, h') ∧ C_az h h' r n m sg (S_acr sg m p o k) := by
  obtain ⟨h1, a1, a2, a3, a4⟩ := tx_num1_s (lo := 0) (hi := 1) C hm hn hk hs (by omega) (by omega)
  rw [nI_0] at a1
  have F1 : B_fr E_act h h1 := a4.mono E_tx_act
  have e92 : ∀ hh, ac_readCrossing_92 hh = some (0, hh) := fun hh => by
    unfold ac_readCrossing_92 ac_readCrossing_93
    rw [bc_0, B_bz0]
  unfold ac_readCrossing_52 S_acr
  rw [bc_1, bc_0, a1, B_bind, bc_m1]
  dsimp only
  rw [B_w_same]
  cases q : S_o1 sg m 0 1 k with
  | false =>
    simp only [Bool.false_eq_true, if_false]
    rw [if_pos trivial, e92]
    exact ⟨0, _, rfl, C_az.no (by rw [B_w_cell _ _ _ (by decide)]; exact a3 q) (F1.w rfl)⟩
  | true =>
    have hq := S_o1_lt q
    simp only [if_true]
    rw [if_neg (fun w => by rw [bn_eqm (by omega)] at w; exact w)]
    have C2 := (a2 q).c43 5 (nI (sg k - 48))
    have F2 : B_fr E_act h (px_w h1 43 5 (nI (sg k - 48))) := F1.w rfl
    have e58 : px_c 58 = nI 58 := bc_58
    rw [e58, tx_take_m C2 hm hn (by omega) hs (z := 58) (by omega)]
    by_cases w : k + 1 < m ∧ sg (k + 1) = 58
    · rw [if_pos w, if_pos w, B_bind, if_neg (show ¬ nI 1 = 0 by decide)]
      generalize hH : px_w (px_w (px_w h1 43 5 (nI (sg k - 48))) 1 2 (nI (k + 1 + 1))) 43 1 0 = h3
      have C3 : C_rd h3 n m (k + 2) sg := by
        rw [← hH]
        exact (C2.to (k + 1 + 1)).c43 1 0
      have F3 : B_fr E_act h h3 := by
        rw [← hH]
        exact (F2.w rfl).w rfl
      have hrt : ac_readThings (px_w (px_w h1 43 5 (nI (sg k - 48))) 1 2 (nI (k + 1 + 1))) = ac_readThings_7 px_F (nI 0) h3 := by
        unfold ac_readThings
        rw [bc_0, nI_0]
        dsimp only
        rw [hH]
      have k43 : ∀ i, i ≠ 1 → i ≠ 5 → h3 43 i = h 43 i := fun i h1 h5 => by
        rw [← hH, B_w_at, if_neg h1, B_w_cell _ _ _ (by decide), B_w_at, if_neg h5, a4 43 i rfl]
      have k5 : h3 43 5 = nI (sg k - 48) := by rw [← hH, B_w_at, if_neg (by decide), B_w_cell _ _ _ (by decide), B_w_same]
      obtain ⟨h4, b1, b2, b3, b4, b5, b6, b7⟩ := ac_readThings_7_s hm hn hs 6 0 (k + 2) px_F h3 rfl (px_F_lt (by omega)) (by omega) C3 (by rw [← hH, B_w_same, nI_0])
      obtain ⟨l1, l2, l3⟩ := S_ql_ok (sg := sg) (m := m) 6 (k + 2) (by omega)
      rw [hrt, b1]
      rw [Nat.zero_add] at b3
      by_cases z : S_ql sg m 6 (k + 2) = []
      · rw [if_pos z]
        have e63 : ac_readThings_63 h4 = some (0, px_w h4 1 4 (nI (k + 2))) := by
          have hl : (S_ql sg m 6 (k + 2)).length = 0 := by rw [z]; rfl
          unfold ac_readThings_63 tx_refuse ac_readThings_82
          rw [b3, hl, if_neg (by decide)]
          dsimp only
          rw [b2.2.1, hl, bc_0, B_bz0, B_bind, if_pos rfl, Nat.add_zero, B_bz0]
        rw [e63, B_bind, if_pos rfl, e92]
        exact ⟨0, _, rfl, C_az.no (B_w_same _ _ _ _) ((F3.trans b7).w rfl)⟩
      · rw [if_neg z]
        have l0 : 0 < (S_ql sg m 6 (k + 2)).length := by
          cases hl : S_ql sg m 6 (k + 2) with
          | nil => exact absurd hl z
          | cons a l => rw [List.length_cons]; omega
        have e63 : ac_readThings_63 h4 = some (nI 1, h4) := by
          unfold ac_readThings_63 ac_readThings_77 ac_readThings_82
          rw [b3, if_pos (by rw [bn_0lt (by omega)]; exact l0), bc_1, B_bz1]
        rw [e63, B_bind, if_neg (show ¬ nI 1 = 0 by decide)]
        unfold ac_readCrossing_93
        rw [B_bz1]
        refine ⟨nI 1, h4, rfl, rfl, fun _ => ⟨b2, ?_, ?_, ?_, fun _ => ⟨?_, b3, fun i hi => ?_⟩, fun e => absurd rfl e⟩, (fun f e => by cases e), F3.trans b7⟩
        · rw [b6 2 (by decide), k43 2 (by decide) (by decide), e2]
        · rw [b6 3 (by decide), k43 3 (by decide) (by decide), e3]
        · rw [b6 4 (by decide), k43 4 (by decide) (by decide), e4]
        · rw [b6 5 (by decide), k5]
        · have := b4 i hi
          rw [Nat.zero_add] at this
          exact this
    · rw [if_neg w, if_neg w, B_bind, if_pos rfl, e92]
      exact ⟨0, _, rfl, C_az.no (B_w_same _ _ _ _) (F2.w rfl)⟩
theorem ac_readCrossing_s {h : pH} {p : Nat} (hp : p < 6) (hm : m ≤ n) (hn : n ≤ 80) (hk : k ≤ m) (hs : ∀ j, j < n → sg j < 256) (C : C_rd h n m k sg) (e2 : h 43 2 = nI 99) (e3 : h 43 3 = nI p) : ∃ r h', ac_readCrossing h = some (r, h') ∧ C_az h h' r n m sg (if k < m ∧ sg k = 43 then (if S_lt sg m 6 (k + 1) = true ∧ ¬ sg (k + 1) - 97 = p then S_acr sg m p (nI (sg (k + 1) - 97)) (k + 2) else d_no (k + 1)) else S_acr sg m p (-1) k) := by
  have C1 := C.c43 4 (-1)
  have F1 : B_fr E_act h (px_w h 43 4 (-1)) := (B_fr.refl _ h).w rfl
  unfold ac_readCrossing
  rw [bc_m1, bc_43, bc_97, bc_6]
  dsimp only
  rw [tx_meet_m C1 hm hn hk hs (z := 43) (by omega)]
  by_cases q : k < m ∧ sg k = 43
  · rw [if_pos q, if_pos q, B_bind, if_neg (show ¬ nI 1 = 0 by decide), tx_letter_s (c := 6) (by omega) (C1.to (k + 1)) hm hn (by omega) hs]
    have F2 : B_fr E_act h (px_w (px_w h 43 4 (-1)) 1 2 (nI (k + 1))) := F1.w rfl
    cases hl : S_lt sg m 6 (k + 1) with
    | false =>
      simp only [Bool.false_eq_true, false_and, if_false]
      rw [B_bind, B_w_same, if_pos rfl, bc_0, B_bz0]
      exact ⟨0, _, rfl, C_az.no (by rw [B_w_cell _ _ _ (by decide), B_w_same]) ((F2.w rfl).w rfl)⟩
    | true =>
      have hll := S_lt_lt hl
      simp only [if_true, true_and]
      rw [B_bind, B_w_same, if_neg (fun w => by rw [bn_eqm (by omega)] at w; exact w)]
      have e33 : (px_w (px_w (px_w (px_w h 43 4 (-1)) 1 2 (nI (k + 1))) 1 2 (nI (k + 1 + 1))) 43 4 (nI (sg (k + 1) - 97))) 43 3 = nI p := by
        rw [B_w_at, if_neg (by decide), B_w_cell _ _ _ (by decide), B_w_cell _ _ _ (by decide), B_w_at, if_neg (by decide), e3]
      have C4 := ((C1.to (k + 1)).to (k + 1 + 1)).c43 4 (nI (sg (k + 1) - 97))
      have F4 : B_fr E_act h (px_w (px_w (px_w (px_w h 43 4 (-1)) 1 2 (nI (k + 1))) 1 2 (nI (k + 1 + 1))) 43 4 (nI (sg (k + 1) - 97))) := (F2.w rfl).w rfl
      rw [e33]
      by_cases z : sg (k + 1) - 97 = p
      · rw [if_pos (by rw [z]), if_neg (fun w => w z)]
        unfold tx_refuseLast
        dsimp only
        rw [C4.2.1, bc_1, pk_sub (by omega), bc_0, B_bz0, B_bind, B_bz0]
        exact ⟨0, _, rfl, C_az.no (B_w_same _ _ _ _) (F4.w rfl)⟩
      · rw [if_neg (fun w => z ((nI_eq (by omega) (by omega)).mp w)), if_pos z]
        obtain ⟨r, h', a1, a2⟩ := ac_readCrossing_52_s (o := nI (sg (k + 1) - 97)) hm hn (by omega) hs C4 (by rw [B_w_at, if_neg (by decide), B_w_cell _ _ _ (by decide), B_w_cell _ _ _ (by decide), B_w_at, if_neg (by decide), e2]) e33 (B_w_same _ _ _ _)
        exact ⟨r, h', a1, a2.fr F4⟩
  · rw [if_neg q, if_neg q, B_bind, if_pos rfl]
    obtain ⟨r, h', a1, a2⟩ := ac_readCrossing_52_s (p := p) (o := -1) hm hn hk hs C1 (by rw [B_w_at, if_neg (by decide), e2]) (by rw [B_w_at, if_neg (by decide), e3]) (B_w_same _ _ _ _)
    exact ⟨r, h', a1, a2.fr F1⟩
theorem ac_readNext_s {h : pH} (hm : m ≤ n) (hn : n ≤ 80) (hk : k ≤ m) (hs : ∀ j, j < n → sg j < 256) (C : C_rd h n m k sg) : ∃ r h', ac_readNext h = some (r, h') ∧ C_az h h' r n m sg (S_act1 sg m k) := by
  have C1 := C.c43 2 (S_nxt sg m k)
  have F1 : B_fr E_act h (px_w h 43 2 (S_nxt sg m k)) := (B_fr.refl _ h).w rfl
  have hx := fun (z : Nat) (hz : z < 256) => S_nxt_eq (sg := sg) (n := n) (m := m) (k := k) (z := z) hs hm hz
  have hz : ac_readNext h = if k < m ∧ (sg k = 99 ∨ sg k = 115 ∨ sg k = 118 ∨ sg k = 119) then ac_readNext_49 (px_w h 43 2 (S_nxt sg m k)) else some (0, px_w (px_w h 43 2 (S_nxt sg m k)) 1 4 (nI k)) := by
    have e118 : px_c 118 = nI 118 := bc_118
    unfold ac_readNext
    rw [tx_next_s C hm hn hk, B_bind, bc_99, bc_115, e118, bc_119]
    dsimp only
    rw [B_w_same]
    simp only [hx 99 (by omega), hx 115 (by omega), hx 118 (by omega), hx 119 (by omega)]
    by_cases q : k < m ∧ (sg k = 99 ∨ sg k = 115 ∨ sg k = 118 ∨ sg k = 119)
    · rw [if_pos q]
      by_cases q1 : k < m ∧ sg k = 99
      · rw [if_pos q1]
      rw [if_neg q1]
      by_cases q2 : k < m ∧ sg k = 115
      · rw [if_pos q2]
      rw [if_neg q2]
      by_cases q3 : k < m ∧ sg k = 118
      · rw [if_pos q3]
      rw [if_neg q3, if_pos (by omega)]
    · rw [if_neg q, if_neg (by omega), if_neg (by omega), if_neg (by omega), if_neg (by omega)]
      unfold tx_refuse
      dsimp only
      rw [C1.2.1, bc_0, B_bz0, B_bind, B_bz0]
  rw [hz]
  unfold S_act1
  by_cases q : k < m ∧ (sg k = 99 ∨ sg k = 115 ∨ sg k = 118 ∨ sg k = 119)
  · rw [if_pos q, if_pos q]
    have hnx : S_nxt sg m k = nI (sg k) := if_pos q.1
    rw [hnx] at C1 F1 ⊢
    have hsk := hs k (by omega)
    unfold ac_readNext_49 tx_skip
    rw [bc_97, bc_6, bc_m1, bc_99, bc_115]
    dsimp only
    rw [C1.2.1, bc_1, nI_add, B_bind, tx_letter_s (c := 6) (by omega) (C1.to (k + 1)) hm hn (by omega) hs]
    have F2 : B_fr E_act h (px_w (px_w h 43 2 (nI (sg k))) 1 2 (nI (k + 1))) := F1.w rfl
    cases hl : S_lt sg m 6 (k + 1) with
    | false =>
      simp only [Bool.false_eq_true, if_false]
      rw [B_bind, B_w_same, if_pos rfl, bc_0, B_bz0]
      exact ⟨0, _, rfl, C_az.no (by rw [B_w_cell _ _ _ (by decide), B_w_same]) ((F2.w rfl).w rfl)⟩
    | true =>
      have hll := S_lt_lt hl
      simp only [if_true]
      rw [B_bind, B_w_same, if_neg (fun w => by rw [bn_eqm (by omega)] at w; exact w)]
      generalize hH : px_w (px_w (px_w (px_w h 43 2 (nI (sg k))) 1 2 (nI (k + 1))) 1 2 (nI (k + 1 + 1))) 43 3 (nI (sg (k + 1) - 97)) = h3
      have C3 : C_rd h3 n m (k + 2) sg := by
        rw [← hH]
        exact ((C1.to (k + 1)).to (k + 1 + 1)).c43 3 _
      have F3 : B_fr E_act h h3 := by
        rw [← hH]
        exact (F2.w rfl).w rfl
      have e2 : h3 43 2 = nI (sg k) := by rw [← hH, B_w_at, if_neg (by decide), B_w_cell _ _ _ (by decide), B_w_cell _ _ _ (by decide), B_w_same]
      have e3 : h3 43 3 = nI (sg (k + 1) - 97) := by rw [← hH, B_w_same]
      rw [e2]
      -- the thing at the end
      have h139 : ∀ (hh : pH) (j pl : Nat) (o : Int32), C_rd hh n m j sg → j ≤ m → ¬ sg k = 99 → hh 43 2 = nI (sg k) → hh 43 3 = nI pl → ∃ r h', ac_readNext_115 o hh = some (r, h') ∧ (¬ o = -1 → C_az hh h' r n m sg (if S_lq sg m j = true then ((sg k, pl, o, sg j - 113, []), j + 1, none) else d_no j)) := fun hh j pl o Ch hj hk9 g2 g3 => by
        have e155 : ∀ hx, ac_readNext_155 (px_c 0) hx = some (0, hx) := fun hx => by
          unfold ac_readNext_155
          rw [bc_0, B_bz0]
        by_cases ho : o = -1
        · refine ⟨0, px_w (px_w hh 43 4 o) 43 6 (-1), ?_, fun e => absurd ho e⟩
          unfold ac_readNext_115 ac_readNext_139
          rw [bc_m1]
          dsimp only
          rw [B_w_same, if_pos ho, B_w_same, if_pos rfl, e155]
        · have Ch4 := Ch.c43 4 o
          have Fh : B_fr E_act hh (px_w hh 43 4 o) := (B_fr.refl _ hh).w rfl
          have hq := tx_letter_q Ch4 hm hn hj hs
          unfold ac_readNext_115 ac_readNext_139
          rw [bc_m1, bc_113, bc_10]
          dsimp only
          rw [B_w_same, if_neg ho, hq]
          cases w : S_lq sg m j with
          | false =>
            simp only [Bool.false_eq_true, if_false]
            rw [B_bind, B_w_same, if_pos rfl, e155]
            exact ⟨0, _, rfl, fun _ => C_az.no (by rw [B_w_cell _ _ _ (by decide), B_w_same]) ((Fh.w rfl).w rfl)⟩
          | true =>
            have hw := S_lq_lt w
            simp only [if_true]
            rw [B_bind, B_w_same, if_neg (fun w => by rw [bn_eqm (by omega)] at w; exact w)]
            unfold ac_readNext_155
            rw [bc_1, B_bz1]
            refine ⟨nI 1, _, rfl, fun _ => ⟨rfl, fun _ => ⟨(Ch4.to (j + 1)).c43 6 _, ?_, ?_, ?_, fun e => absurd e hk9, fun _ => B_w_same _ _ _ _⟩, (fun f e => by cases e), (Fh.w rfl).w rfl⟩⟩
            · rw [B_w_at, if_neg (by decide), B_w_cell _ _ _ (by decide), B_w_at, if_neg (by decide), g2]
            · rw [B_w_at, if_neg (by decide), B_w_cell _ _ _ (by decide), B_w_at, if_neg (by decide), g3]
            · rw [B_w_at, if_neg (by decide), B_w_cell _ _ _ (by decide), B_w_same]
      by_cases q9 : sg k = 99
      · rw [if_pos (by rw [q9]), if_pos q9]
        obtain ⟨r, h', a1, a2⟩ := ac_readCrossing_s (h := h3) (p := sg (k + 1) - 97) (by omega) hm hn (by omega) hs C3 (by rw [e2, q9]) e3
        have hr01 : r = 0 ∨ r = nI 1 := by
          have h01 : ∀ o : Option Nat, (if o = none then nI 1 else (0 : Int32)) = 0 ∨ (if o = none then nI 1 else (0 : Int32)) = nI 1 := fun o => by
            cases o with
            | none => exact Or.inr rfl
            | some x => exact Or.inl rfl
          rw [a2.1]
          exact h01 _
        refine ⟨r, h', ?_, a2.fr F3⟩
        rw [a1, B_bind]
        rcases hr01 with e | e <;> rw [e] <;> rfl
      · rw [if_neg (fun w => q9 ((nI_eq (by omega) (by omega)).mp w)), if_neg q9]
        by_cases q5 : sg k = 115
        · rw [if_pos (by rw [q5]), if_pos q5]
          obtain ⟨r, h', a1, a2⟩ := h139 h3 (k + 2) (sg (k + 1) - 97) (nI (sg (k + 1) - 97)) C3 (by omega) q9 e2 e3
          refine ⟨r, h', a1, ?_⟩
          have := (a2 (fun w => by rw [bn_eqm (by omega)] at w; exact w)).fr F3
          rw [q5] at this
          exact this
        · rw [if_neg (fun w => q5 ((nI_eq (by omega) (by omega)).mp w)), if_neg q5, tx_letter_s (c := 6) (by omega) C3 hm hn (by omega) hs]
          cases hl2 : S_lt sg m 6 (k + 2) with
          | false =>
            simp only [Bool.false_eq_true, if_false]
            rw [B_bind]
            unfold ac_readNext_115 ac_readNext_139 ac_readNext_155
            rw [bc_m1, bc_0]
            dsimp only
            rw [B_w_same, if_pos rfl, B_w_same, if_pos rfl, B_bz0]
            exact ⟨0, _, rfl, C_az.no (by rw [B_w_cell _ _ _ (by decide), B_w_cell _ _ _ (by decide), B_w_same]) (((F3.w rfl).w rfl).w rfl)⟩
          | true =>
            have hll2 := S_lt_lt hl2
            simp only [if_true]
            rw [B_bind]
            have F4 : B_fr E_act h (px_w h3 1 2 (nI (k + 2 + 1))) := F3.w rfl
            obtain ⟨r, h', a1, a2⟩ := h139 (px_w h3 1 2 (nI (k + 2 + 1))) (k + 2 + 1) (sg (k + 1) - 97) (nI (sg (k + 2) - 97)) (C3.to (k + 2 + 1)) (by omega) q9 (by rw [B_w_cell _ _ _ (by decide), e2]) (by rw [B_w_cell _ _ _ (by decide), e3])
            exact ⟨r, h', a1, (a2 (fun w => by rw [bn_eqm (by omega)] at w; exact w)).fr F4⟩
  · rw [if_neg q, if_neg q]
    exact ⟨0, _, rfl, C_az.no (B_w_same _ _ _ _) (F1.w rfl)⟩
end ACTS
