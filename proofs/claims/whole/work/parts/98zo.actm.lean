/-! Layer B: day: an act of the text, the other side -/
section ACTM
variable {n m mo k q : Nat} {sg : Nat → Nat}
def M_act (h : pH) (x : Nat) (a : dA) : Prop := h 69 x = nI a.1 ∧ h 69 (x + 1) = nI a.2.1 ∧ h 69 (x + 3) = nI a.2.2.2.1 ∧ (¬ a.1 = 115 → h 69 (x + 2) = a.2.2.1) ∧ (a.1 = 99 → h 69 (x + 4) = nI a.2.2.2.2.length ∧ ∀ i, i < a.2.2.2.2.length → h 69 (x + 5 + i) = nI (a.2.2.2.2.getD i 0))
def E_ma (q : Nat) : Nat → Nat → Bool := fun a k => match a with
  | 51 => [18, 19].contains k
  | 69 => Nat.ble (11 * q) k && Nat.ble k (11 * q + 10)
  | _ => false
theorem E_mx_ma : ∀ a k, E_mx a k = true → E_ma q a k = true := fun a k e => by
  unfold E_mx at e
  split at e
  · exact e
  · cases e
theorem E_ma_69 {x : Nat} (h1 : 11 * q ≤ x) (h2 : x ≤ 11 * q + 10) : E_ma q 69 x = true := by
  show (Nat.ble (11 * q) x && Nat.ble x (11 * q + 10)) = true
  rw [Nat.ble_eq.mpr h1, Nat.ble_eq.mpr h2]
  rfl
theorem E_ma_69f {x : Nat} (h : x < 11 * q ∨ 11 * q + 10 < x) : E_ma q 69 x = false := by
  show (Nat.ble (11 * q) x && Nat.ble x (11 * q + 10)) = false
  rcases h with h | h
  · rw [B_ble_f h]
    rfl
  · rw [B_ble_f h, Bool.and_false]
theorem M_rd.w69 {h : pH} {f : Option Nat} (M : M_rd h n mo k sg f) (x : Nat) (v : Int32) : M_rd (px_w h 69 x v) n mo k sg f := M.cell (fun j _ => by rw [B_w_cell _ _ _ (by decide)]) (B_w_cell _ _ _ (by decide))
def M_az (h h' : pH) (n mo q : Nat) (sg : Nat → Nat) (t : dT) : Prop := (∃ k2, M_rd h' n mo k2 sg t.2.2 ∧ (t.2.2 = none → k2 = t.2.1)) ∧ (t.2.2 = none → M_act h' (11 * q) t.1) ∧ B_fr (E_ma q) h h'
theorem M_az.fr {h0 h h' : pH} {t : dT} (F : B_fr (E_ma q) h0 h) (z : M_az h h' n mo q sg t) : M_az h0 h' n mo q sg t := ⟨z.1, z.2.1, F.trans z.2.2⟩
theorem M_az.no {h h' : pH} {f k2 : Nat} (M : M_rd h' n mo k2 sg (some f)) (F : B_fr (E_ma q) h h') : M_az h h' n mo q sg (d_no f) := ⟨⟨k2, M, fun w => by cases w⟩, (fun w => by cases w), F⟩
theorem mo_letter_q {h : pH} (M : M_rd h n mo k sg none) (hn : n ≤ 80) (hmo : mo < 2 ^ 31) (hk : k < 1000) (hs : ∀ j, j < n → sg j < 256) : mo_in (S_nxt sg (min n mo) k) (nI 113) (nI 122) h = some (B_01 (S_lq sg (min n mo) k), h) ∧ mo_letter (nI 113) (nI 10) (-1) h = if S_lq sg (min n mo) k = true then some (nI (sg k - 113), px_w h 51 18 (nI (k + 1))) else some (0, px_w h 51 19 (nI k)) := by
  have e122 : nI 113 + nI 10 - nI 1 = nI 122 := by decide
  have tl : (nI 113).toInt = 113 := rfl
  have th : (nI 122).toInt = 122 := rfl
  have hin : mo_in (S_nxt sg (min n mo) k) (nI 113) (nI 122) h = some (B_01 (S_lq sg (min n mo) k), h) := by
    rw [mo_in_eq, tl, th]
    unfold S_nxt S_lq
    by_cases q : k < min n mo
    · have := hs k (by omega)
      rw [if_pos q, decide_eq_true q, Bool.true_and, nI_toInt (by omega)]
      congr 3
      by_cases w : 113 ≤ sg k ∧ sg k < 123
      · rw [decide_eq_true w.1, decide_eq_true w.2, decide_eq_true (by omega)]
        rfl
      · rw [decide_eq_false (by omega)]
        symm
        rw [← Bool.not_eq_true]
        intro z
        simp only [Bool.and_eq_true, decide_eq_true_eq] at z
        exact w z
    · rw [if_neg q, decide_eq_false q, Bool.false_and, decide_eq_false (fun w => by
        have e : (-1 : Int32).toInt = -1 := by decide
        rw [e] at w
        omega)]
  refine ⟨hin, ?_⟩
  have e35 : mo_letter_35 h = some (0, px_w h 51 19 (nI k)) := by
    unfold mo_letter_35
    rw [M.2.2.2.1, mo_fault_0 M, B_bind, bc_0]
  have hh := mo_here_s M hn hmo hk hs
  unfold mo_letter
  rw [mo_fine_0 M, B_bind, if_neg (by decide), hh, B_bind, bc_1, e122, hin, B_bind]
  cases q : S_lq sg (min n mo) k with
  | false => rw [if_pos (show B_01 false = 0 from rfl), e35, if_neg (by decide)]
  | true =>
    obtain ⟨w1, w2, w3⟩ := S_lq_lt q
    have M2 := M.to (k + 1)
    have ex : S_nxt sg (min n mo) k = nI (sg k) := if_pos w1
    rw [if_neg (show ¬ B_01 true = 0 by decide), hh, B_bind, ex, pk_sub w2, if_neg (fun w => by rw [bn_eqm (by omega)] at w; exact w), if_pos rfl, M.2.2.2.1, nI_add]
    dsimp only
    rw [M2.1, M2.2.2.2.1, pk_sub (by omega), Nat.add_sub_cancel, nI_clamp (show 58 < 2 ^ 31 by decide), show (decide (0 ≤ nI 58) && Nat.blt 58 px_N) = true by decide, B_ift, po_58 (by omega), Bool.true_or, B_ift, nI_clamp (by omega), M2.2.2.2.2.2 k (by omega), B_byte_lo (by omega), pk_sub w2]
/-! a fault stays -/
section ACTF
variable {h : pH} {x : Nat}
theorem mo_readAct_255_f (hx : x < 2 ^ 31) (hq : q < 60) (M : M_rd h n mo k sg (some x)) : ∃ h', mo_readAct_255 (nI (11 * q)) h = some (0, h') ∧ M_az h h' n mo q sg (d_no x) := by
  refine ⟨px_w h 69 (11 * q + 3) 0, ?_, M_az.no (M.w69 _ _) ((B_fr.refl _ h).w (E_ma_69 (by omega) (by omega)))⟩
  unfold mo_readAct_255 mo_readAct_272
  rw [mo_letter_1 hx M, B_bind, bc_3, nI_add, po_69 (by omega), B_ift, nI_clamp (by omega)]
theorem mo_readAct_162_f (hx : x < 2 ^ 31) (hq : q < 60) (M : M_rd h n mo k sg (some x)) : ∃ h', mo_readAct_162 px_F (nI (11 * q)) 0 h = some (0, h') ∧ M_az h h' n mo q sg (d_no x) := by
  obtain ⟨F, hF⟩ : ∃ F, px_F = F + 1 := ⟨px_F - 1, by have : 100 < px_F := px_F_lt (by omega); omega⟩
  refine ⟨px_w h 69 (11 * q + 4) 0, ?_, M_az.no (M.w69 _ _) ((B_fr.refl _ h).w (E_ma_69 (by omega) (by omega)))⟩
  rw [hF]
  show px_bind (mo_fine h) _ = _
  rw [mo_fine_1 hx M, B_bind, if_pos rfl]
  unfold mo_readAct_214 mo_readAct_226 mo_readAct_272
  rw [if_pos rfl, mo_fault_1 hx M, B_bind, bc_4, nI_add, po_69 (by omega), B_ift, nI_clamp (by omega)]
theorem mo_readAct_154_f (hx : x < 2 ^ 31) (hq : q < 60) (M : M_rd h n mo k sg (some x)) : ∃ h', mo_readAct_154 (nI (11 * q)) h = some (0, h') ∧ M_az h h' n mo q sg (d_no x) := by
  obtain ⟨h', a1, a2⟩ := mo_readAct_162_f (q := q) hx hq M
  refine ⟨h', ?_, a2⟩
  unfold mo_readAct_154
  rw [mo_need_1 hx M, B_bind, bc_0, a1]
theorem mo_readAct_139_f {o : Int32} (hx : x < 2 ^ 31) (hq : q < 60) (M : M_rd h n mo k sg (some x)) : ∃ h', mo_readAct_139 (nI (11 * q)) o (nI (11 * q + 2)) h = some (0, h') ∧ M_az h h' n mo q sg (d_no x) := by
  obtain ⟨h', a1, a2⟩ := mo_readAct_154_f (q := q) hx hq ((M.w69 (11 * q + 2) o).w69 (11 * q + 3) 0)
  refine ⟨h', ?_, a2.fr (((B_fr.refl _ h).w (E_ma_69 (by omega) (by omega))).w (E_ma_69 (by omega) (by omega)))⟩
  unfold mo_readAct_139
  rw [po_69 (by omega), B_ift, nI_clamp (by omega)]
  dsimp only
  rw [mo_digit_1 hx (M.w69 _ _), B_bind, bc_3, nI_add, po_69 (by omega), B_ift, nI_clamp (by omega)]
  exact a1
theorem mo_readAct_54_f {z : Int32} (hx : x < 2 ^ 31) (hq : q < 60) (M : M_rd h n mo k sg (some x)) : ∃ h', mo_readAct_54 (nI (11 * q)) z h = some (0, h') ∧ M_az h h' n mo q sg (d_no x) := by
  have M1 := M.w69 (11 * q + 1) 0
  have F1 : B_fr (E_ma q) h (px_w h 69 (11 * q + 1) 0) := (B_fr.refl _ h).w (E_ma_69 (by omega) (by omega))
  unfold mo_readAct_54
  rw [mo_letter_1 hx M, B_bind, bc_1, bc_2, bc_3, nI_add, nI_add, nI_add, po_69 (by omega), B_ift, nI_clamp (by omega)]
  dsimp only
  by_cases w1 : z = px_c 115
  · rw [if_pos w1, mo_letter_1 hx M1, B_bind, po_69 (by omega), B_ift, nI_clamp (by omega)]
    exact ⟨_, rfl, M_az.no (M1.w69 _ _) (F1.w (E_ma_69 (by omega) (by omega)))⟩
  · rw [if_neg w1]
    by_cases w2 : z = px_c 99
    · rw [if_pos w2, mo_passes_1 hx M1, B_bind, if_pos rfl]
      obtain ⟨h', a1, a2⟩ := mo_readAct_139_f (q := q) (o := px_c (-1)) hx hq M1
      exact ⟨h', a1, a2.fr F1⟩
    · rw [if_neg w2, mo_letter_1 hx M1, B_bind, po_69 (by omega), B_ift, nI_clamp (by omega)]
      obtain ⟨h', a1, a2⟩ := mo_readAct_255_f (q := q) hx hq (M1.w69 (11 * q + 2) 0)
      exact ⟨h', a1, a2.fr (F1.w (E_ma_69 (by omega) (by omega)))⟩
end ACTF
theorem mo_readAct_162_s (hn : n ≤ 80) (hmo : mo < 2 ^ 31) (hs : ∀ j, j < n → sg j < 256) (hq : q < 60) : ∀ (d j k g : Nat) (h : pH), j + d = 6 → d < g → k ≤ min n mo → M_rd h n mo k sg none → ∃ h', mo_readAct_162 g (nI (11 * q)) (nI j) h = mo_readAct_214 (nI (11 * q)) (nI (j + (S_ql sg (min n mo) d k).length)) h' ∧ M_rd h' n mo (k + (S_ql sg (min n mo) d k).length) sg none ∧ (∀ i, i < (S_ql sg (min n mo) d k).length → h' 69 (11 * q + 5 + (j + i)) = nI ((S_ql sg (min n mo) d k).getD i 0)) ∧ (∀ i, i < 11 * q + 5 + j → h' 69 i = h 69 i) ∧ B_fr (E_ma q) h h' := by
  intro d
  induction d with
  | zero =>
    intro j k g h hj hg hk M
    obtain ⟨g, rfl⟩ : ∃ n', g = n' + 1 := ⟨g - 1, by omega⟩
    refine ⟨h, ?_, M, fun i hi => absurd hi (by simp [S_ql]), fun _ _ => rfl, B_fr.refl _ _⟩
    show px_bind (mo_fine h) _ = _
    have e122 : px_c 122 = nI 122 := bc_122
    rw [mo_fine_0 M, B_bind, if_neg (by decide), mo_here_s M hn hmo (by omega) hs, B_bind, bc_113, e122, (mo_letter_q M hn hmo (by omega) hs).1, B_bind, bc_6]
    by_cases w : B_01 (S_lq sg (min n mo) k) = 0
    · rw [if_pos w]
      rfl
    · rw [if_neg w, if_pos (nI_le (by omega) (by omega))]
      rfl
  | succ d ih =>
    intro j k g h hj hg hk M
    obtain ⟨g, rfl⟩ : ∃ n', g = n' + 1 := ⟨g - 1, by omega⟩
    have e122 : px_c 122 = nI 122 := bc_122
    obtain ⟨l1, l2⟩ := mo_letter_q M hn hmo (by omega) hs
    have hz : mo_readAct_162 (g + 1) (nI (11 * q)) (nI j) h = if S_lq sg (min n mo) k = true then mo_readAct_162 g (nI (11 * q)) (nI (j + 1)) (px_w (px_w h 51 18 (nI (k + 1))) 69 (11 * q + 5 + j) (nI (sg k - 113))) else mo_readAct_214 (nI (11 * q)) (nI j) h := by
      show px_bind (mo_fine h) _ = _
      rw [mo_fine_0 M, B_bind, if_neg (by decide), mo_here_s M hn hmo (by omega) hs, B_bind, bc_113, e122, l1, B_bind, bc_6, bc_10, bc_m1, l2]
      cases w : S_lq sg (min n mo) k with
      | false => rw [if_pos (show B_01 false = 0 from rfl), if_neg (by decide)]
      | true =>
        rw [if_neg (show ¬ B_01 true = 0 by decide), if_neg (nI_ge (by omega) (by omega)), if_pos rfl, if_pos rfl, B_bind, bc_5, nI_add, nI_add, po_69 (by omega), B_ift, nI_clamp (by omega), bc_1, nI_add]
    rw [hz]
    unfold S_ql
    by_cases w : S_lq sg (min n mo) k = true
    · have hw := S_lq_lt w
      rw [if_pos w, if_pos w]
      have F2 : B_fr (E_ma q) h (px_w (px_w h 51 18 (nI (k + 1))) 69 (11 * q + 5 + j) (nI (sg k - 113))) := by
        refine ((B_fr.refl _ h).w rfl).w ?_
        exact E_ma_69 (by omega) (by omega)
      obtain ⟨h', a1, a2, a3, a4, a5⟩ := ih (j + 1) (k + 1) g _ (by omega) (by omega) (by omega) ((M.to (k + 1)).w69 (11 * q + 5 + j) (nI (sg k - 113)))
      refine ⟨h', ?_, ?_, fun i hi => ?_, fun i hi => ?_, F2.trans a5⟩
      · rw [a1, List.length_cons, show j + ((S_ql sg (min n mo) d (k + 1)).length + 1) = j + 1 + (S_ql sg (min n mo) d (k + 1)).length by omega]
      · rw [List.length_cons, show k + ((S_ql sg (min n mo) d (k + 1)).length + 1) = k + 1 + (S_ql sg (min n mo) d (k + 1)).length by omega]
        exact a2
      · cases i with
        | zero =>
          rw [show j + 0 = j from rfl, a4 _ (by omega), B_w_same]
          rfl
        | succ i =>
          rw [List.length_cons] at hi
          rw [show j + (i + 1) = j + 1 + i by omega]
          exact a3 i (by omega)
      · rw [a4 i (by omega), B_w_at, if_neg (by omega), B_w_cell _ _ _ (by decide)]
    · rw [if_neg w, if_neg w]
      exact ⟨h, rfl, M, fun i hi => absurd hi (by simp), fun _ _ => rfl, B_fr.refl _ _⟩
theorem mo_readAct_139_s {h : pH} {p : Nat} {o : Int32} (hn : n ≤ 80) (hmo : mo < 2 ^ 31) (hs : ∀ j, j < n → sg j < 256) (hq : q < 60) (hk : k ≤ min n mo) (M : M_rd h n mo k sg none) (g0 : h 69 (11 * q) = nI 99) (g1 : h 69 (11 * q + 1) = nI p) : ∃ h', mo_readAct_139 (nI (11 * q)) o (nI (11 * q + 2)) h = some (0, h') ∧ M_az h h' n mo q sg (S_acr sg (min n mo) p o k) := by
  have M1 := M.w69 (11 * q + 2) o
  have F1 : B_fr (E_ma q) h (px_w h 69 (11 * q + 2) o) := (B_fr.refl _ h).w (E_ma_69 (by omega) (by omega))
  have hd := mo_digit_lh (lo := 0) (hi := 1) (by omega) (by omega) M1 hn hmo (by omega) hs
  rw [nI_0] at hd
  have hz : mo_readAct_139 (nI (11 * q)) o (nI (11 * q + 2)) h = px_bind (mo_digit 0 (nI 1) (px_w h 69 (11 * q + 2) o)) fun z2 h3 => mo_readAct_154 (nI (11 * q)) (px_w h3 69 (11 * q + 3) z2) := by
    unfold mo_readAct_139
    rw [po_69 (by omega), B_ift, nI_clamp (by omega), bc_0, bc_1, bc_3, nI_add, po_69 (by omega), nI_clamp (by omega)]
    rfl
  rw [hz, hd]
  unfold S_acr
  cases w : S_o1 sg (min n mo) 0 1 k with
  | false =>
    simp only [Bool.false_eq_true, if_false]
    rw [B_bind]
    have F2 : B_fr (E_ma q) h (px_w (px_w (px_w h 69 (11 * q + 2) o) 51 19 (nI k)) 69 (11 * q + 3) 0) := by
      refine (F1.w rfl).w ?_
      exact E_ma_69 (by omega) (by omega)
    obtain ⟨h', a1, a2⟩ := mo_readAct_154_f (q := q) (show k < 2 ^ 31 by omega) hq ((M1.fl k).w69 (11 * q + 3) 0)
    exact ⟨h', a1, a2.fr F2⟩
  | true =>
    have hw := S_o1_lt w
    simp only [if_true]
    rw [B_bind]
    generalize hH : px_w (px_w (px_w h 69 (11 * q + 2) o) 51 18 (nI (k + 1))) 69 (11 * q + 3) (nI (sg k - 48)) = h3
    have F3 : B_fr (E_ma q) h h3 := by
      rw [← hH]
      refine (F1.w rfl).w ?_
      exact E_ma_69 (by omega) (by omega)
    have M3 : M_rd h3 n mo (k + 1) sg none := by
      rw [← hH]
      exact (M1.to (k + 1)).w69 _ _
    have v0 : h3 69 (11 * q) = nI 99 := by rw [← hH, B_w_at, if_neg (by omega), B_w_cell _ _ _ (by decide), B_w_at, if_neg (by omega), g0]
    have v1 : h3 69 (11 * q + 1) = nI p := by rw [← hH, B_w_at, if_neg (by omega), B_w_cell _ _ _ (by decide), B_w_at, if_neg (by omega), g1]
    have v2 : h3 69 (11 * q + 2) = o := by rw [← hH, B_w_at, if_neg (by omega), B_w_cell _ _ _ (by decide), B_w_same]
    have v3 : h3 69 (11 * q + 3) = nI (sg k - 48) := by rw [← hH, B_w_same]
    have e58 : px_c 58 = nI 58 := bc_58
    unfold mo_readAct_154
    rw [e58, mo_need_0 M3 hn hmo (by omega) hs (z := 58) (by omega), bc_0]
    by_cases z : k + 1 < min n mo ∧ sg (k + 1) = 58
    · rw [if_pos z, if_pos z, B_bind, ← nI_0]
      obtain ⟨h4, b1, b2, b3, b4, b5⟩ := mo_readAct_162_s hn hmo hs hq 6 0 (k + 1 + 1) px_F _ rfl (px_F_lt (by omega)) (by omega) (M3.to (k + 1 + 1))
      obtain ⟨l1, l2, l3⟩ := S_ql_ok (sg := sg) (m := min n mo) 6 (k + 1 + 1) (by omega)
      have F4 : B_fr (E_ma q) h h4 := (F3.w rfl).trans b5
      rw [b1, Nat.zero_add]
      show ∃ h', _ ∧ M_az h h' n mo q sg (if S_ql sg (min n mo) 6 (k + 1 + 1) = [] then d_no (k + 1 + 1) else ((99, p, o, sg k - 48, S_ql sg (min n mo) 6 (k + 1 + 1)), k + 1 + 1 + (S_ql sg (min n mo) 6 (k + 1 + 1)).length, none))
      unfold mo_readAct_214 mo_readAct_226 mo_readAct_272
      rw [bc_4, nI_add]
      by_cases y : S_ql sg (min n mo) 6 (k + 1 + 1) = []
      · rw [if_pos y]
        rw [y] at b2 ⊢
        have b2' : M_rd h4 n mo (k + 1 + 1) sg none := b2
        have e0 : nI ([] : List Nat).length = 0 := rfl
        rw [e0, if_pos rfl, b2'.2.2.2.1, mo_fault_0 b2', B_bind, po_69 (by omega), B_ift, nI_clamp (by omega)]
        refine ⟨_, rfl, M_az.no ((b2'.fl (k + 1 + 1)).w69 _ _) ?_⟩
        refine (F4.w rfl).w ?_
        exact E_ma_69 (by omega) (by omega)
      · rw [if_neg y]
        have l0 : 0 < (S_ql sg (min n mo) 6 (k + 1 + 1)).length := by
          cases hl : S_ql sg (min n mo) 6 (k + 1 + 1) with
          | nil => exact absurd hl y
          | cons a l => rw [List.length_cons]; omega
        rw [if_neg (nI_ne0 l0 (by omega)), po_69 (by omega), B_ift, nI_clamp (by omega)]
        refine ⟨_, rfl, ⟨_, b2.w69 _ _, fun _ => rfl⟩, fun _ => ⟨?_, ?_, ?_, fun _ => ?_, fun _ => ⟨B_w_same _ _ _ _, fun i hi => ?_⟩⟩, ?_⟩
        · rw [B_w_at, if_neg (by omega), b4 _ (by omega), B_w_cell _ _ _ (by decide)]
          exact v0
        · rw [B_w_at, if_neg (by omega), b4 _ (by omega), B_w_cell _ _ _ (by decide)]
          exact v1
        · rw [B_w_at, if_neg (by omega), b4 _ (by omega), B_w_cell _ _ _ (by decide)]
          exact v3
        · rw [B_w_at, if_neg (by omega), b4 _ (by omega), B_w_cell _ _ _ (by decide)]
          exact v2
        · have := b3 i hi
          rw [Nat.zero_add] at this
          rw [B_w_at, if_neg (by omega)]
          exact this
        · exact F4.w (E_ma_69 (by omega) (by omega))
    · rw [if_neg z, if_neg z, B_bind]
      obtain ⟨h', a1, a2⟩ := mo_readAct_162_f (q := q) (show k + 1 < 2 ^ 31 by omega) hq (M3.fl (k + 1))
      exact ⟨h', a1, a2.fr (F3.w rfl)⟩
theorem mo_readAct_s {h : pH} (hn : n ≤ 80) (hmo : mo < 2 ^ 31) (hs : ∀ j, j < n → sg j < 256) (hq : q < 60) (hk : k ≤ min n mo) (M : M_rd h n mo k sg none) : ∃ h', mo_readAct (nI (11 * q)) h = some (0, h') ∧ M_az h h' n mo q sg (S_act1 sg (min n mo) k) := by
  have hh := mo_here_s M hn hmo (by omega) hs
  have hx := fun (z : Nat) (hz : z < 256) => S_nxt_eq (sg := sg) (n := n) (m := min n mo) (k := k) (z := z) hs (Nat.min_le_left n mo) hz
  have e118 : px_c 118 = nI 118 := bc_118
  have hz : mo_readAct (nI (11 * q)) h = if k < min n mo ∧ (sg k = 99 ∨ sg k = 115 ∨ sg k = 118 ∨ sg k = 119) then mo_readAct_37 (nI (11 * q)) (S_nxt sg (min n mo) k) h else mo_readAct_37 (nI (11 * q)) (S_nxt sg (min n mo) k) (px_w h 51 19 (nI k)) := by
    unfold mo_readAct
    rw [hh, B_bind, bc_99, bc_115, e118, bc_119]
    simp only [hx 99 (by omega), hx 115 (by omega), hx 118 (by omega), hx 119 (by omega)]
    by_cases w : k < min n mo ∧ (sg k = 99 ∨ sg k = 115 ∨ sg k = 118 ∨ sg k = 119)
    · rw [if_pos w]
      by_cases q1 : k < min n mo ∧ sg k = 99
      · rw [if_pos q1]
      rw [if_neg q1]
      by_cases q2 : k < min n mo ∧ sg k = 115
      · rw [if_pos q2]
      rw [if_neg q2]
      by_cases q3 : k < min n mo ∧ sg k = 118
      · rw [if_pos q3]
      rw [if_neg q3, if_pos (by omega)]
    · rw [if_neg w, if_neg (by omega), if_neg (by omega), if_neg (by omega), if_neg (by omega), M.2.2.2.1, mo_fault_0 M, B_bind]
  have h37 : ∀ (hh : pH) (z : Int32) (f : Option Nat), M_rd hh n mo k sg f → mo_readAct_37 (nI (11 * q)) z hh = mo_readAct_54 (nI (11 * q)) z (px_w (px_w hh 51 18 (nI (k + 1))) 69 (11 * q) z) := fun hh z f Mh => by
    unfold mo_readAct_37
    rw [Mh.2.2.2.1, bc_1, nI_add, po_69 (by omega), B_ift, nI_clamp (by omega)]
  have F0 : ∀ (hh : pH) (z : Int32), B_fr (E_ma q) hh (px_w (px_w hh 51 18 (nI (k + 1))) 69 (11 * q) z) := fun hh z => by
    refine ((B_fr.refl _ hh).w rfl).w ?_
    exact E_ma_69 (by omega) (by omega)
  rw [hz]
  unfold S_act1
  by_cases w : k < min n mo ∧ (sg k = 99 ∨ sg k = 115 ∨ sg k = 118 ∨ sg k = 119)
  · rw [if_pos w, if_pos w, h37 h _ none M]
    have hnx : S_nxt sg (min n mo) k = nI (sg k) := if_pos w.1
    have hsk := hs k (by omega)
    rw [hnx]
    have F1 := F0 h (nI (sg k))
    have M1 := (M.to (k + 1)).w69 (11 * q) (nI (sg k))
    generalize hH1 : px_w (px_w h 51 18 (nI (k + 1))) 69 (11 * q) (nI (sg k)) = h1 at *
    have v0 : h1 69 (11 * q) = nI (sg k) := by rw [← hH1, B_w_same]
    have hl := mo_letter_0 (c := 6) (by omega) (-1) M1 hn hmo (by omega) hs
    unfold mo_readAct_54
    rw [bc_97, bc_6, bc_m1, hl, bc_1, bc_2, bc_3, nI_add, nI_add, nI_add, bc_115, bc_99]
    have nol : ∀ x, x < 200 → ¬ nI x = (-1 : Int32) := fun x hx w => by
      rw [bn_eqm (by omega)] at w
      exact w
    cases hlt : S_lt sg (min n mo) 6 (k + 1) with
    | false =>
      simp only [Bool.false_eq_true, if_false, false_and]
      have M2 := M1.fl (k + 1)
      obtain ⟨h', a1, a2⟩ := mo_readAct_54_f (q := q) (z := nI (sg k)) (show k + 1 < 2 ^ 31 by omega) hq M2
      refine ⟨h', ?_, a2.fr (F1.w rfl)⟩
      rw [← a1]
      unfold mo_readAct_54
      rw [mo_letter_1 (show k + 1 < 2 ^ 31 by omega) M2, bc_1, bc_2, bc_3, nI_add, nI_add, nI_add, bc_115, bc_99, bc_97, bc_6, bc_m1]
    | true =>
      have hll := S_lt_lt hlt
      rw [if_pos ⟨rfl, nol _ (by omega)⟩, if_pos rfl, B_bind, po_69 (by omega), B_ift, nI_clamp (by omega)]
      dsimp only
      generalize hH3 : px_w (px_w h1 51 18 (nI (k + 1 + 1))) 69 (11 * q + 1) (nI (sg (k + 1) - 97)) = h3
      have F3 : B_fr (E_ma q) h h3 := by
        rw [← hH3]
        refine (F1.w rfl).w ?_
        exact E_ma_69 (by omega) (by omega)
      have M3 : M_rd h3 n mo (k + 2) sg none := by
        rw [← hH3]
        exact (M1.to (k + 1 + 1)).w69 _ _
      have w0 : h3 69 (11 * q) = nI (sg k) := by rw [← hH3, B_w_at, if_neg (by omega), B_w_cell _ _ _ (by decide), v0]
      have w1 : h3 69 (11 * q + 1) = nI (sg (k + 1) - 97) := by rw [← hH3, B_w_same]
      by_cases q9 : sg k = 99
      · rw [if_neg (show ¬ nI (sg k) = nI 115 from fun e => by
          have := (nI_eq (by omega) (by omega)).mp e
          omega), if_pos (show nI (sg k) = nI 99 by rw [q9]), if_pos q9, bc_43, mo_passes_0 M3 hn hmo (by omega) hs (z := 43) (by omega)]
        by_cases q43 : k + 2 < min n mo ∧ sg (k + 2) = 43
        · rw [if_pos q43, if_pos q43, B_bind, if_neg (show ¬ nI 1 = 0 by decide), B_ift, B_w_cell _ _ _ (show (69 : Nat) ≠ 51 by decide), w1, mo_letter_0 (c := 6) (by omega) _ (M3.to (k + 2 + 1)) hn hmo (by omega) hs]
          by_cases q6 : S_lt sg (min n mo) 6 (k + 3) = true ∧ ¬ sg (k + 3) - 97 = sg (k + 1) - 97
          · have h6l := S_lt_lt q6.1
            rw [if_pos q6, if_pos (show S_lt sg (min n mo) 6 (k + 2 + 1) = true ∧ ¬ nI (sg (k + 2 + 1) - 97) = nI (sg (k + 1) - 97) from ⟨q6.1, fun e => q6.2 ((nI_eq (by omega) (by omega)).mp e)⟩), B_bind]
            have F5 : B_fr (E_ma q) h (px_w (px_w h3 51 18 (nI (k + 2 + 1))) 51 18 (nI (k + 2 + 1 + 1))) := (F3.w rfl).w rfl
            obtain ⟨h', a1, a2⟩ := mo_readAct_139_s (p := sg (k + 1) - 97) (o := nI (sg (k + 2 + 1) - 97)) hn hmo hs hq (show k + 2 + 1 + 1 ≤ min n mo by omega) ((M3.to (k + 2 + 1)).to (k + 2 + 1 + 1)) (by rw [B_w_cell _ _ _ (by decide), B_w_cell _ _ _ (by decide), w0, q9]) (by rw [B_w_cell _ _ _ (by decide), B_w_cell _ _ _ (by decide), w1])
            exact ⟨h', a1, a2.fr F5⟩
          · rw [if_neg q6, if_neg (show ¬ (S_lt sg (min n mo) 6 (k + 2 + 1) = true ∧ ¬ nI (sg (k + 2 + 1) - 97) = nI (sg (k + 1) - 97)) from fun e => q6 ⟨e.1, fun e2 => e.2 (by rw [show k + 2 + 1 = k + 3 by omega, e2])⟩), B_bind]
            have F5 : B_fr (E_ma q) h (px_w (px_w h3 51 18 (nI (k + 2 + 1))) 51 19 (nI (k + 2 + 1))) := (F3.w rfl).w rfl
            obtain ⟨h', a1, a2⟩ := mo_readAct_139_f (q := q) (o := 0) (show k + 2 + 1 < 2 ^ 31 by omega) hq ((M3.to (k + 2 + 1)).fl (k + 2 + 1))
            exact ⟨h', a1, a2.fr F5⟩
        · rw [if_neg q43, if_neg q43, B_bind, if_pos rfl]
          obtain ⟨h', a1, a2⟩ := mo_readAct_139_s (p := sg (k + 1) - 97) (o := -1) hn hmo hs hq (show k + 2 ≤ min n mo by omega) M3 (by rw [w0, q9]) w1
          exact ⟨h', a1, a2.fr F3⟩
      · rw [if_neg q9]
        obtain ⟨-, l2⟩ := mo_letter_q M3 hn hmo (by omega) hs
        by_cases q5 : sg k = 115
        · rw [if_pos (show nI (sg k) = nI 115 by rw [q5]), if_pos q5, bc_113, bc_10, l2]
          unfold mo_readAct_272
          cases w5 : S_lq sg (min n mo) (k + 2) with
          | false =>
            simp only [Bool.false_eq_true, if_false]
            rw [B_bind, po_69 (by omega), B_ift, nI_clamp (by omega)]
            refine ⟨_, rfl, M_az.no ((M3.fl (k + 2)).w69 _ _) ?_⟩
            refine (F3.w rfl).w ?_
            exact E_ma_69 (by omega) (by omega)
          | true =>
            have hw5 := S_lq_lt w5
            simp only [if_true]
            rw [B_bind, po_69 (by omega), B_ift, nI_clamp (by omega)]
            refine ⟨_, rfl, ⟨_, (M3.to (k + 2 + 1)).w69 _ _, fun _ => rfl⟩, fun _ => ⟨?_, ?_, B_w_same _ _ _ _, fun e => absurd rfl e, fun e => by cases e⟩, ?_⟩
            · rw [B_w_at, if_neg (by omega), B_w_cell _ _ _ (by decide), w0, q5]
            · rw [B_w_at, if_neg (by omega), B_w_cell _ _ _ (by decide), w1]
            · refine (F3.w rfl).w ?_
              exact E_ma_69 (by omega) (by omega)
        · rw [if_neg (show ¬ nI (sg k) = nI 115 from fun e => q5 ((nI_eq (by omega) (by omega)).mp e)), if_neg (show ¬ nI (sg k) = nI 99 from fun e => q9 ((nI_eq (by omega) (by omega)).mp e)), if_neg q5, mo_letter_0 (c := 6) (by omega) (-1) M3 hn hmo (by omega) hs]
          cases hl2 : S_lt sg (min n mo) 6 (k + 2) with
          | false =>
            simp only [Bool.false_eq_true, if_false, false_and]
            rw [B_bind, po_69 (by omega), B_ift, nI_clamp (by omega)]
            try dsimp only
            have F5 : B_fr (E_ma q) h (px_w (px_w h3 51 19 (nI (k + 2))) 69 (11 * q + 2) 0) := by
              refine (F3.w rfl).w ?_
              exact E_ma_69 (by omega) (by omega)
            obtain ⟨h', a1, a2⟩ := mo_readAct_255_f (q := q) (show k + 2 < 2 ^ 31 by omega) hq ((M3.fl (k + 2)).w69 (11 * q + 2) 0)
            exact ⟨h', a1, a2.fr F5⟩
          | true =>
            have hll2 := S_lt_lt hl2
            rw [if_pos ⟨rfl, nol _ (by omega)⟩, if_pos rfl, B_bind, po_69 (by omega), B_ift, nI_clamp (by omega)]
            try dsimp only
            have M5 := (M3.to (k + 2 + 1)).w69 (11 * q + 2) (nI (sg (k + 2) - 97))
            have F5 : B_fr (E_ma q) h (px_w (px_w h3 51 18 (nI (k + 2 + 1))) 69 (11 * q + 2) (nI (sg (k + 2) - 97))) := by
              refine (F3.w rfl).w ?_
              exact E_ma_69 (by omega) (by omega)
            obtain ⟨-, l3⟩ := mo_letter_q M5 hn hmo (by omega) hs
            unfold mo_readAct_255 mo_readAct_272
            rw [bc_113, bc_10, bc_m1, l3, bc_3, nI_add]
            show ∃ h', _ ∧ M_az h h' n mo q sg (if S_lq sg (min n mo) (k + 2 + 1) = true then ((sg k, sg (k + 1) - 97, nI (sg (k + 2) - 97), sg (k + 2 + 1) - 113, []), k + 2 + 1 + 1, none) else d_no (k + 2 + 1))
            cases w5 : S_lq sg (min n mo) (k + 2 + 1) with
            | false =>
              simp only [Bool.false_eq_true, if_false]
              rw [B_bind, po_69 (by omega), B_ift, nI_clamp (by omega)]
              refine ⟨_, rfl, M_az.no ((M5.fl (k + 2 + 1)).w69 _ _) ?_⟩
              refine (F5.w rfl).w ?_
              exact E_ma_69 (by omega) (by omega)
            | true =>
              have hw5 := S_lq_lt w5
              simp only [if_true]
              rw [B_bind, po_69 (by omega), B_ift, nI_clamp (by omega)]
              refine ⟨_, rfl, ⟨_, (M5.to (k + 2 + 1 + 1)).w69 _ _, fun _ => rfl⟩, fun _ => ⟨?_, ?_, B_w_same _ _ _ _, fun _ => ?_, fun e => absurd e q9⟩, ?_⟩
              · rw [B_w_at, if_neg (by omega), B_w_cell _ _ _ (by decide), B_w_at, if_neg (by omega), B_w_cell _ _ _ (by decide), w0]
              · rw [B_w_at, if_neg (by omega), B_w_cell _ _ _ (by decide), B_w_at, if_neg (by omega), B_w_cell _ _ _ (by decide), w1]
              · rw [B_w_at, if_neg (by omega), B_w_cell _ _ _ (by decide), B_w_same]
              · refine (F5.w rfl).w ?_
                exact E_ma_69 (by omega) (by omega)
  · rw [if_neg w, if_neg w, h37 _ _ _ (M.fl k)]
    have F2 : B_fr (E_ma q) h (px_w (px_w (px_w h 51 19 (nI k)) 51 18 (nI (k + 1))) 69 (11 * q) (S_nxt sg (min n mo) k)) := B_fr.trans ((B_fr.refl _ h).w rfl) (F0 (px_w h 51 19 (nI k)) (S_nxt sg (min n mo) k))
    obtain ⟨h', a1, a2⟩ := mo_readAct_54_f (q := q) (z := S_nxt sg (min n mo) k) (show k < 2 ^ 31 by omega) hq (((M.fl k).to (k + 1)).w69 (11 * q) (S_nxt sg (min n mo) k))
    exact ⟨h', a1, a2.fr F2⟩
end ACTM
