/-! Layer B: rule: reading it, small steps of one side -/
section RUC
variable {h : pH} {n m : Nat} {sg : Nat → Nat}
theorem u_getD_app {β : Type} (l : List β) (x d : β) {k : Nat} (hk : k < (l ++ [x]).length) : (l ++ [x]).getD k d = if k = l.length then x else l.getD k d := by
  rw [List.length_append, List.length_singleton] at hk
  rw [List.getD_eq_getElem?_getD, List.getD_eq_getElem?_getD, List.getElem?_append]
  by_cases h : k = l.length
  · subst h
    simp
  · rw [if_pos (by omega), if_neg h]
/-- what is written, what waits -/
def C_st (h : pH) (out : List uC) (st : List Nat) : Prop := (h 17 5 = nI out.length ∧ ∀ i, i < out.length → h 19 i = uI (out.getD i (false, 0))) ∧ h 17 6 = nI st.length ∧ ∀ i, i < st.length → h 20 i = nI (st.reverse.getD i 0)
def E_us : Nat → Nat → Bool := fun a k => match a with
  | 17 => [5, 6].contains k
  | 19 => true
  | 20 => true
  | _ => false
def E_ru : Nat → Nat → Bool := fun a k => match a with
  | 1 => [2, 3, 4].contains k
  | 17 => [5, 6, 7].contains k
  | 19 => true
  | 20 => true
  | 21 => true
  | _ => false
theorem E_us_ru : ∀ a k, E_us a k = true → E_ru a k = true := fun a k e => by
  unfold E_us at e
  split at e
  · have : k = 5 ∨ k = 6 := by simpa using e
    rcases this with rfl | rfl <;> rfl
  · rfl
  · rfl
  · cases e
theorem E_tx_ru : ∀ a k, E_tx a k = true → E_ru a k = true := fun a k e => by
  unfold E_tx at e
  split at e
  · exact e
  · cases e
theorem C_st.fr {h2 : pH} {out : List uC} {st : List Nat} (C : C_st h out st) (e1 : h2 17 5 = h 17 5) (e2 : h2 17 6 = h 17 6) (e3 : h2 19 = h 19) (e4 : h2 20 = h 20) : C_st h2 out st := by
  unfold C_st at *
  rw [e1, e2, e3, e4]
  exact C
theorem ru_write_s {out : List uC} {st : List Nat} (C : C_st h out st) (hl : out.length < 40) (c : uC) : ∃ h', ru_write (uI c) h = some (0, h') ∧ C_st h' (out ++ [c]) st ∧ B_fr E_us h h' := by
  obtain ⟨⟨c1, c2⟩, c3, c4⟩ := C
  refine ⟨px_w (px_w h 19 out.length (uI c)) 17 5 (nI (out.length + 1)), ?_, ⟨⟨?_, fun i hi => ?_⟩, ?_, fun i hi => ?_⟩, ((B_fr.refl _ h).w rfl).w rfl⟩
  · unfold ru_write
    rw [c1, wp_19 hl, B_bind, bc_1]
    dsimp only
    rw [B_w_cell _ _ _ (by decide), c1, nI_add]
  · rw [B_w_same, List.length_append, List.length_singleton]
  · rw [u_getD_app _ _ _ hi, B_w_cell _ _ _ (by decide), B_w_at]
    by_cases q : i = out.length
    · rw [if_pos q, if_pos q]
    · rw [if_neg q, if_neg q]
      rw [List.length_append, List.length_singleton] at hi
      exact c2 i (by omega)
  · rw [B_w_at, if_neg (by decide), B_w_cell _ _ _ (by decide), c3]
  · rw [B_w_cell _ _ _ (by decide), B_w_cell _ _ _ (by decide)]
    exact c4 i hi
theorem ru_defer_s {out : List uC} {st : List Nat} (C : C_st h out st) (hl : st.length < 40) (s : Nat) : ∃ h', ru_defer (nI s) h = some (0, h') ∧ C_st h' out (s :: st) ∧ B_fr E_us h h' := by
  obtain ⟨⟨c1, c2⟩, c3, c4⟩ := C
  refine ⟨px_w (px_w h 20 st.length (nI s)) 17 6 (nI (st.length + 1)), ?_, ⟨⟨?_, fun i hi => ?_⟩, ?_, fun i hi => ?_⟩, ((B_fr.refl _ h).w rfl).w rfl⟩
  · unfold ru_defer
    rw [c3, wp_20 hl, B_bind, bc_1]
    dsimp only
    rw [B_w_cell _ _ _ (by decide), c3, nI_add]
  · rw [B_w_at, if_neg (by decide), B_w_cell _ _ _ (by decide), c1]
  · rw [B_w_cell _ _ _ (by decide), B_w_cell _ _ _ (by decide)]
    exact c2 i hi
  · rw [B_w_same]
    rfl
  · rw [List.reverse_cons, u_getD_app _ _ _ (by rw [← List.reverse_cons, List.length_reverse]; exact hi), B_w_cell _ _ _ (by decide), B_w_at, List.length_reverse]
    by_cases q : i = st.length
    · rw [if_pos q, if_pos q]
    · rw [if_neg q, if_neg q]
      rw [List.length_cons] at hi
      exact c4 i (by omega)
theorem C_st.pop {out : List uC} {st : List Nat} {s : Nat} (C : C_st h out (s :: st)) : C_st (px_w h 17 6 (nI st.length)) out st := by
  obtain ⟨⟨c1, c2⟩, c3, c4⟩ := C
  refine ⟨⟨?_, fun i hi => ?_⟩, B_w_same _ _ _ _, fun i hi => ?_⟩
  · rw [B_w_at, if_neg (by decide), c1]
  · rw [B_w_cell _ _ _ (by decide)]
    exact c2 i hi
  · rw [B_w_cell _ _ _ (by decide), c4 i (by rw [List.length_cons]; omega), List.reverse_cons, u_getD_app _ _ _ (by rw [← List.reverse_cons, List.length_reverse, List.length_cons]; omega), List.length_reverse, if_neg (by omega)]
theorem C_st.top {out : List uC} {st : List Nat} {s : Nat} (C : C_st h out (s :: st)) : h 20 st.length = nI s := by
  rw [C.2.2 st.length (by rw [List.length_cons]; omega), List.reverse_cons, u_getD_app _ _ _ (by rw [← List.reverse_cons, List.length_reverse, List.length_cons]; omega), List.length_reverse, if_pos rfl]
theorem ru_bondOf_n {c : Nat} (hc : c < 1000) : ru_bondOf (nI c) h = some (nI (u_bond c), h) := by
  unfold ru_bondOf u_bond
  simp (disch := omega) only [bc_42, bc_43, bc_45, bc_47, bc_60, bc_61, bc_62, bc_256, bc_0, bc_1, bc_2, bc_3, bc_4, bn_eq]
  repeat' split
  all_goals rfl
theorem ru_bondOf_x (hs : ∀ j, j < m → sg j < 256) (k : Nat) : ru_bondOf (S_nxt sg m k) h = some (nI (u_bond (u_nx sg m k)), h) := by
  unfold S_nxt u_nx
  by_cases q : k < m
  · rw [if_pos q, if_pos q, ru_bondOf_n (by have := hs k q; omega)]
  · rw [if_neg q, if_neg q]
    unfold ru_bondOf
    simp (disch := omega) only [bc_42, bc_43, bc_45, bc_47, bc_60, bc_61, bc_62, bc_256, bc_0, bc_1, bc_2, bc_3, bc_4, bn_meq]
    rfl
theorem ru_isLetter_no {x : Int32} (hx : ∀ j, 105 ≤ j → j ≤ 121 → ¬ x = nI j) : ru_isLetter x h = some (0, h) := by
  unfold ru_isLetter
  rw [bc_105, bc_106, bc_107, bc_108, bc_109, bc_110, bc_111, bc_112, bc_113, bc_114, bc_115, bc_116, bc_117, bc_118, bc_119, bc_120, bc_121]
  rw [if_neg (hx 105 (by omega) (by omega)), if_neg (hx 106 (by omega) (by omega)), if_neg (hx 107 (by omega) (by omega)), if_neg (hx 108 (by omega) (by omega)), if_neg (hx 109 (by omega) (by omega)), if_neg (hx 110 (by omega) (by omega)), if_neg (hx 111 (by omega) (by omega)), if_neg (hx 112 (by omega) (by omega)), if_neg (hx 113 (by omega) (by omega)), if_neg (hx 114 (by omega) (by omega)), if_neg (hx 115 (by omega) (by omega)), if_neg (hx 116 (by omega) (by omega)), if_neg (hx 117 (by omega) (by omega)), if_neg (hx 118 (by omega) (by omega)), if_neg (hx 119 (by omega) (by omega)), if_neg (hx 120 (by omega) (by omega)), if_neg (hx 121 (by omega) (by omega)), bc_0, B_bz0]
theorem ru_isLetter_n {c : Nat} (hc : c < 1000) : ru_isLetter (nI c) h = some (B_01 (u_let c), h) := by
  by_cases q : c < 105 ∨ 121 < c
  · have : u_let c = false := by
      cases z : u_let c with
      | false => rfl
      | true =>
        unfold u_let at z
        simp at z
        omega
    rw [this, ru_isLetter_no (fun j h1 h2 e => by
      have := (nI_eq (by omega) (by omega)).mp e
      omega)]
    rfl
  · obtain ⟨j, rfl⟩ : ∃ j, c = 105 + j := ⟨c - 105, by omega⟩
    have hj2 : j = 0 ∨ j = 1 ∨ j = 2 ∨ j = 3 ∨ j = 4 ∨ j = 5 ∨ j = 6 ∨ j = 7 ∨ j = 8 ∨ j = 9 ∨ j = 10 ∨ j = 11 ∨ j = 12 ∨ j = 13 ∨ j = 14 ∨ j = 15 ∨ j = 16 := by omega
    unfold ru_isLetter
    rw [bc_105, bc_106, bc_107, bc_108, bc_109, bc_110, bc_111, bc_112, bc_113, bc_114, bc_115, bc_116, bc_117, bc_118, bc_119, bc_120, bc_121, bc_0, bc_1]
    rcases hj2 with rfl | rfl | rfl | rfl | rfl | rfl | rfl | rfl | rfl | rfl | rfl | rfl | rfl | rfl | rfl | rfl | rfl <;> rfl
theorem ru_isLetter_x (hs : ∀ j, j < m → sg j < 256) (k : Nat) : ru_isLetter (S_nxt sg m k) h = some (B_01 (u_let (u_nx sg m k)), h) := by
  unfold S_nxt u_nx
  by_cases q : k < m
  · rw [if_pos q, if_pos q, ru_isLetter_n (by have := hs k q; omega)]
  · rw [if_neg q, if_neg q, ru_isLetter_no (fun j h1 h2 e => by
      rw [bn_meq (by omega)] at e
      exact e)]
    rfl
theorem u_bond_ne {s : Nat} (h1 : s = 40 ∨ 1 ≤ u_bond s) : s < 257 := by
  rcases h1 with h1 | h1
  · omega
  · unfold u_bond at h1
    repeat' split at h1
    all_goals omega
theorem u_W_len (b : Nat) : ∀ (st : List Nat) (out : List uC), (u_W b out st).1.length + (u_W b out st).2.length = out.length + st.length ∧ (u_W b out st).2.length ≤ st.length ∧ ∀ s, s ∈ (u_W b out st).2 → s ∈ st := by
  intro st
  induction st with
  | nil => intro out; exact ⟨rfl, Nat.le_refl _, fun s h => h⟩
  | cons s st ih =>
    intro out
    show ((if s = 40 ∨ u_bond s < b then (out, s :: st) else u_W b (out ++ [(true, s)]) st).1.length + (if s = 40 ∨ u_bond s < b then (out, s :: st) else u_W b (out ++ [(true, s)]) st).2.length = _) ∧ _ ∧ ∀ t, t ∈ (if s = 40 ∨ u_bond s < b then (out, s :: st) else u_W b (out ++ [(true, s)]) st).2 → _
    by_cases q : s = 40 ∨ u_bond s < b
    · simp only [if_pos q]
      refine ⟨trivial, ?_, fun t ht => ht⟩
      show (if s = 40 ∨ u_bond s < b then (out, s :: st) else u_W b (out ++ [(true, s)]) st).2.length ≤ _
      rw [if_pos q]
      exact Nat.le_refl _
    · simp only [if_neg q]
      obtain ⟨i1, i2, i3⟩ := ih (out ++ [(true, s)])
      refine ⟨by rw [i1, List.length_append, List.length_singleton, List.length_cons]; omega, ?_, fun t ht => List.mem_cons_of_mem _ (i3 t ht)⟩
      show (if s = 40 ∨ u_bond s < b then (out, s :: st) else u_W b (out ++ [(true, s)]) st).2.length ≤ _
      rw [if_neg q, List.length_cons]
      omega
theorem ru_writeWaiting_2_s {b : Nat} (hb : b ≤ 4) : ∀ (st : List Nat) (out : List uC) (j g : Nat) (h : pH), C_st h out st → out.length + st.length ≤ 40 → j + st.length ≤ 40 → st.length < g → (∀ s, s ∈ st → s = 40 ∨ 1 ≤ u_bond s) → ∃ h', ru_writeWaiting_2 g (nI b) (nI j) h = some (0, h') ∧ C_st h' (u_W b out st).1 (u_W b out st).2 ∧ B_fr E_us h h' := by
  intro st
  induction st with
  | nil =>
    intro out j g h C hl hj hg hs
    obtain ⟨g, rfl⟩ : ∃ n', g = n' + 1 := ⟨g - 1, by omega⟩
    refine ⟨h, ?_, C, B_fr.refl _ _⟩
    have e0 : h 17 6 ≤ 0 := by
      rw [C.2.1]
      decide
    show (if px_c 40 ≤ nI j then ru_writeWaiting_66 h else _) = _
    rw [if_pos e0]
    split <;> rfl
  | cons s st ih =>
    intro out j g h C hl hj hg hs
    obtain ⟨g, rfl⟩ : ∃ n', g = n' + 1 := ⟨g - 1, by omega⟩
    rw [List.length_cons] at hl hj hg
    have hs1 := hs s (List.mem_cons_self ..)
    have hlt := u_bond_ne hs1
    have e6 : h 17 6 = nI (st.length + 1) := C.2.1
    have hz : ru_writeWaiting_2 (g + 1) (nI b) (nI j) h = if s = 40 then some (0, h) else if b ≤ u_bond s then px_bind (ru_write (-(nI s)) h) (fun _ h6 => ru_writeWaiting_2 g (nI b) (nI (j + 1)) (px_w h6 17 6 (h6 17 6 - nI 1))) else some (0, h) := by
      have hbs : u_bond s < 2 ^ 31 := by
        unfold u_bond
        repeat' split
        all_goals omega
      show (if px_c 40 ≤ nI j then _ else if h 17 6 ≤ 0 then _ else _) = _
      rw [bc_40, if_neg (nI_ge (by omega) (by omega)), e6, if_neg (fun w => by rw [bn_le0 (by omega)] at w; omega), bc_1, pk_sub (by omega), Nat.add_sub_cancel, wa_20 (by omega), B_bind, C.top]
      simp (disch := omega) only [bn_eq, bn_le, ru_bondOf_n, B_bind, nI_add, ru_writeWaiting_43]
    rw [hz]
    show ∃ h', _ ∧ C_st h' (if s = 40 ∨ u_bond s < b then (out, s :: st) else u_W b (out ++ [(true, s)]) st).1 (if s = 40 ∨ u_bond s < b then (out, s :: st) else u_W b (out ++ [(true, s)]) st).2 ∧ _
    by_cases q : s = 40
    · rw [if_pos q, if_pos (Or.inl q)]
      exact ⟨h, rfl, C, B_fr.refl _ _⟩
    · rw [if_neg q]
      by_cases w : b ≤ u_bond s
      · rw [if_pos w, if_neg (fun e => by omega)]
        obtain ⟨h2, a1, a2, a3⟩ := ru_write_s (st := s :: st) C (by omega) (true, s)
        have a1' : ru_write (-(nI s)) h = some (0, h2) := a1
        have e62 : h2 17 6 = nI (st.length + 1) := a2.2.1
        rw [a1', B_bind, e62, pk_sub (by omega), Nat.add_sub_cancel]
        obtain ⟨h3, b1, b2, b3⟩ := ih (out ++ [(true, s)]) (j + 1) g _ a2.pop (by rw [List.length_append, List.length_singleton]; omega) (by omega) (by omega) (fun t ht => hs t (List.mem_cons_of_mem _ ht))
        exact ⟨h3, b1, b2, (a3.w rfl).trans b3⟩
      · rw [if_neg w, if_pos (Or.inr (by omega))]
        exact ⟨h, rfl, C, B_fr.refl _ _⟩
theorem ru_writeWaiting_s {b : Nat} {st : List Nat} {out : List uC} (hb : b ≤ 4) (C : C_st h out st) (hl : out.length + st.length ≤ 40) (hs : ∀ s, s ∈ st → s = 40 ∨ 1 ≤ u_bond s) : ∃ h', ru_writeWaiting (nI b) h = some (0, h') ∧ C_st h' (u_W b out st).1 (u_W b out st).2 ∧ B_fr E_us h h' := by
  unfold ru_writeWaiting
  rw [bc_0, ← nI_0]
  exact ru_writeWaiting_2_s hb st out 0 px_F h C hl (by omega) (px_F_lt (by omega)) hs
theorem ru_compare_s {j : Nat} {b : Bool} (hj : j ≤ 4) (e : h 17 7 = nI j) : ru_compare (B_01 b) h = some (0, px_w h 21 j (B_01 b)) := by
  have e5 : px_len 21 = 5 := rfl
  unfold ru_compare ru_compare_29
  rw [e, if_neg (nI_pos (by omega)), e5, if_neg (nI_ge (by omega) (by omega)), po_21 (by omega), B_ift, nI_clamp (by omega)]
  have : px_nz (B_01 b) = B_01 b := by cases b <;> rfl
  rw [this]
theorem ru_isCompared_s {j : Nat} {b : Bool} (hj : j ≤ 4) (e : h 17 7 = nI j) (e2 : h 21 j = B_01 b) : ru_isCompared h = some (B_01 b, h) := by
  have e5 : px_len 21 = 5 := rfl
  unfold ru_isCompared ru_isCompared_35 ru_isCompared_36
  rw [e, if_neg (nI_pos (by omega)), e5, if_neg (nI_ge (by omega) (by omega)), po_21 (by omega), Bool.or_true, B_ift, nI_clamp (by omega), e2, bc_0, bc_1]
  cases b <;> rfl
/-- a number of three digits -/
theorem tx_num3_s {k : Nat} (C : C_rd h n m k sg) (hm : m ≤ n) (hn : n ≤ 80) (hk : k ≤ m) (hs : ∀ j, j < n → sg j < 256) (hd : S_dg sg m k = true) : ∃ h', tx_number (nI 3) 0 (nI 999) h = some (nI (u_num sg m k).1, h') ∧ C_rd h' n m (u_num sg m k).2 sg ∧ (u_num sg m k).1 ≤ 999 ∧ k < (u_num sg m k).2 ∧ (u_num sg m k).2 ≤ m ∧ B_fr E_tx h h' := by
  obtain ⟨F, hF⟩ : ∃ F, px_F = F + 4 := ⟨px_F - 4, by have : 100 < px_F := px_F_lt (by omega); omega⟩
  have hstep : ∀ (F kk v k : Nat) (h : pH), C_rd h n m k sg → k ≤ m → kk < 3 → v < 100 → tx_number_6 (F + 1) (nI 3) 0 (nI 999) (nI v) (nI kk) h = if S_dg sg m k = true then tx_number_6 F (nI 3) 0 (nI 999) (nI (10 * v + (sg k - 48))) (nI (kk + 1)) (px_w h 1 2 (nI (k + 1))) else tx_number_54 0 (nI 999) (nI v) h := by
    intro F kk v k h C hk hkk hv
    have e1 := tx_isDigit_s C hm hn hk hs
    have n1 := tx_next_s C hm hn hk
    show (if nI 3 ≤ nI kk then _ else px_bind (tx_isDigit h) _) = _
    rw [if_neg (nI_ge (by omega) (by omega)), e1, B_bind]
    cases q : S_dg sg m k with
    | false => rw [if_pos (show B_01 false = 0 from rfl), if_neg (by decide)]
    | true =>
      obtain ⟨w1, w2, w3⟩ := S_dg_lt q
      rw [if_neg (show ¬ B_01 true = 0 by decide), n1, B_bind, if_pos rfl]
      have : S_nxt sg m k = nI (sg k) := if_pos w1
      rw [this]
      dsimp only
      rw [C.2.1, bc_1, nI_add, bc_48, bc_10, bc_0, nI_add]
      have em : px_max 0 (nI v) = nI v := by
        unfold px_max
        split
        · rfl
        · rename_i z
          rw [bn_0lt (by omega)] at z
          rw [show v = 0 by omega, nI_0]
      rw [em, pk_mul, nI_add, pk_sub (by omega)]
      congr 2
      omega
  have h54 : ∀ (v : Nat) (h : pH), v ≤ 999 → tx_number_54 0 (nI 999) (nI v) h = some (nI v, h) := fun v h hv => by
    unfold tx_number_54
    rw [bc_m1, if_neg (fun w => by rw [bn_eqm (by omega)] at w; exact w), if_neg (nI_pos (by omega)), if_pos (nI_le (by omega) (by omega))]
  have e1 := tx_isDigit_s C hm hn hk hs
  have n1 := tx_next_s C hm hn hk
  obtain ⟨w1, w2, w3⟩ := S_dg_lt hd
  have C2 := C.to (k + 1)
  have F2 : B_fr E_tx h (px_w h 1 2 (nI (k + 1))) := (B_fr.refl _ h).w rfl
  have s1 : tx_number (nI 3) 0 (nI 999) h = tx_number_6 (F + 3) (nI 3) 0 (nI 999) (nI (sg k - 48)) (nI 1) (px_w h 1 2 (nI (k + 1))) := by
    unfold tx_number
    rw [hF, bc_m1, bc_0]
    show (if nI 3 ≤ 0 then _ else px_bind (tx_isDigit h) _) = _
    rw [if_neg (by decide), e1, B_bind, hd, if_neg (show ¬ B_01 true = 0 by decide), n1, B_bind]
    have : S_nxt sg m k = nI (sg k) := if_pos w1
    rw [this]
    dsimp only
    rw [C.2.1, bc_1, nI_add, bc_48, bc_10, bc_0, show px_max (0 : Int32) (-1) * nI 10 = 0 by decide, Int32.zero_add, pk_sub w2, Int32.zero_add]
  rw [s1, hstep (F + 2) 1 (sg k - 48) (k + 1) _ C2 (by omega) (by omega) (by omega)]
  unfold u_num
  cases q2 : S_dg sg m (k + 1) with
  | false =>
    simp only [Bool.false_eq_true, if_false]
    exact ⟨_, h54 _ _ (by omega), C2, by omega, by omega, by omega, F2⟩
  | true =>
    obtain ⟨x1, x2, x3⟩ := S_dg_lt q2
    simp only [if_true]
    have C3 := C2.to (k + 2)
    rw [hstep (F + 1) (1 + 1) _ (k + 2) _ C3 (by omega) (by omega) (by omega)]
    cases q3 : S_dg sg m (k + 2) with
    | false =>
      simp only [Bool.false_eq_true, if_false]
      exact ⟨_, h54 _ _ (by omega), C3, by omega, by omega, by omega, F2.w rfl⟩
    | true =>
      obtain ⟨y1, y2, y3⟩ := S_dg_lt q3
      simp only [if_true]
      refine ⟨_, ?_, C3.to (k + 3), by omega, by omega, by omega, (F2.w rfl).w rfl⟩
      show (if nI 3 ≤ nI 3 then _ else _) = _
      rw [if_pos (by decide)]
      exact h54 _ _ (by omega)
end RUC
