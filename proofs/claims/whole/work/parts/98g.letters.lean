/-! Layer B: reading signs, digits and letters, both sides -/
section LETTERS
variable {h : pH} {n m k mo : Nat} {sg : Nat → Nat} {f : Option Nat}
theorem S_nxt_eq {z : Nat} (hs : ∀ j, j < n → sg j < 256) (hm : m ≤ n) (hz : z < 256) : (S_nxt sg m k = nI z) = (k < m ∧ sg k = z) := propext ⟨fun e => by
  unfold S_nxt at e
  by_cases q : k < m
  · have := hs k (by omega)
    rw [if_pos q] at e
    exact ⟨q, (nI_eq (by omega) (by omega)).mp e⟩
  · rw [if_neg q, bn_meq (by omega)] at e
    exact e.elim, fun e => by
  unfold S_nxt
  rw [if_pos e.1, e.2]⟩
theorem tx_meet_m (C : C_rd h n m k sg) (hm : m ≤ n) (hn : n ≤ 80) (hk : k ≤ m) (hs : ∀ j, j < n → sg j < 256) {z : Nat} (hz : z < 256) : tx_meet (nI z) h = if k < m ∧ sg k = z then some (nI 1, px_w h 1 2 (nI (k + 1))) else some (0, h) := by
  unfold tx_meet
  rw [tx_next_s C hm hn hk, B_bind, bc_1, bc_0, B_bz0, B_bz1]
  try dsimp only
  rw [C.2.1, nI_add]
  simp only [S_nxt_eq hs hm hz]
theorem tx_take_m (C : C_rd h n m k sg) (hm : m ≤ n) (hn : n ≤ 80) (hk : k ≤ m) (hs : ∀ j, j < n → sg j < 256) {z : Nat} (hz : z < 256) : tx_take (nI z) h = if k < m ∧ sg k = z then some (nI 1, px_w h 1 2 (nI (k + 1))) else some (0, px_w h 1 4 (nI k)) := by
  unfold tx_take tx_take_15 tx_take_20 tx_refuse
  rw [tx_meet_m C hm hn hk hs hz, bc_1, bc_0]
  by_cases q : k < m ∧ sg k = z
  · rw [if_pos q, if_pos q, B_bind, if_neg (by decide), B_bz1]
  · rw [if_neg q, if_neg q, B_bind, if_pos rfl]
    dsimp only
    rw [C.2.1, B_bz0, B_bind, if_pos rfl, B_bz0]
/-- one digit in its limits -/
def S_o1 (sg : Nat → Nat) (m lo hi k : Nat) : Bool := S_dg sg m k && (decide (lo ≤ sg k - 48) && decide (sg k - 48 ≤ hi))
theorem tx_num1_s {lo hi : Nat} (C : C_rd h n m k sg) (hm : m ≤ n) (hn : n ≤ 80) (hk : k ≤ m) (hs : ∀ j, j < n → sg j < 256) (hlo : lo < 2 ^ 31) (hhi : hi < 2 ^ 31) : ∃ h', tx_number (nI 1) (nI lo) (nI hi) h = some (if S_o1 sg m lo hi k = true then nI (sg k - 48) else -1, h') ∧ (S_o1 sg m lo hi k = true → C_rd h' n m (k + 1) sg) ∧ (S_o1 sg m lo hi k = false → h' 1 4 = nI k) ∧ B_fr E_tx h h' := by
  obtain ⟨F, hF⟩ : ∃ F, px_F = F + 2 := ⟨px_F - 2, by have : 100 < px_F := px_F_lt (by omega); omega⟩
  have e1 := tx_isDigit_s C hm hn hk hs
  have n1 := tx_next_s C hm hn hk
  unfold tx_number
  rw [hF, bc_m1, bc_0]
  have s1 : tx_number_6 (F + 2) (nI 1) (nI lo) (nI hi) (-1) 0 h = if S_dg sg m k = true then tx_number_54 (nI lo) (nI hi) (nI (sg k - 48)) (px_w h 1 2 (nI (k + 1))) else tx_number_54 (nI lo) (nI hi) (-1) h := by
    show (if nI 1 ≤ 0 then _ else px_bind (tx_isDigit h) _) = _
    rw [if_neg (by decide), e1, B_bind]
    cases q : S_dg sg m k with
    | false => rw [if_pos (show B_01 false = 0 from rfl), if_neg (by decide)]
    | true =>
      obtain ⟨w1, w2, w3⟩ := S_dg_lt q
      rw [if_neg (show ¬ B_01 true = 0 by decide), n1, B_bind, if_pos rfl]
      have : S_nxt sg m k = nI (sg k) := if_pos w1
      rw [this]
      dsimp only
      rw [C.2.1, bc_1, nI_add, bc_48, bc_10, bc_0, show px_max (0 : Int32) (-1) * nI 10 = 0 by decide, Int32.zero_add, pk_sub w2, Int32.zero_add]
      show (if nI 1 ≤ nI 1 then _ else _) = _
      rw [if_pos (by decide)]
  rw [s1]
  unfold S_o1
  cases q : S_dg sg m k with
  | false =>
    simp only [Bool.false_eq_true, if_false, Bool.false_and]
    unfold tx_number_54 tx_refuse
    dsimp only
    rw [bc_m1, if_pos rfl, C.2.1, bc_0, B_bz0, B_bind]
    exact ⟨_, rfl, (fun w => by cases w), fun _ => B_w_same _ _ _ _, (B_fr.refl _ h).w rfl⟩
  | true =>
    obtain ⟨w1, w2, w3⟩ := S_dg_lt q
    simp only [if_true, Bool.true_and]
    obtain ⟨h', a1, a2, a3, a4⟩ := tx_number_54_s (lo := lo) (hi := hi) (v := sg k - 48) (C.to (k + 1)) (by omega) (by omega) (by omega) hlo hhi
    have F2 : B_fr E_tx h (px_w h 1 2 (nI (k + 1))) := (B_fr.refl _ h).w rfl
    refine ⟨h', ?_, fun _ => a2, fun w => ?_, F2.trans a4⟩
    · rw [a1]
      unfold S_ck
      by_cases z : lo ≤ sg k - 48 ∧ sg k - 48 ≤ hi
      · simp only [if_pos z, decide_eq_true z.1, decide_eq_true z.2, Bool.and_self, if_true]
      · have z' : (decide (lo ≤ sg k - 48) && decide (sg k - 48 ≤ hi)) = false := by
          rw [← Bool.not_eq_true, Bool.and_eq_true, decide_eq_true_eq, decide_eq_true_eq]
          exact z
        simp only [if_neg z, z', reduceCtorEq, if_false, Bool.false_eq_true]
    · have z : ¬ (lo ≤ sg k - 48 ∧ sg k - 48 ≤ hi) := fun z => by
        rw [decide_eq_true z.1, decide_eq_true z.2] at w
        cases w
      have := a3 k (by
        unfold S_ck
        simp only [if_neg z, Nat.add_sub_cancel])
      exact this
/-- one of the first c letters -/
def S_lt (sg : Nat → Nat) (m c k : Nat) : Bool := decide (k < m) && (decide (97 ≤ sg k) && decide (sg k < 97 + c))
theorem S_lt_lt {c : Nat} (q : S_lt sg m c k = true) : k < m ∧ 97 ≤ sg k ∧ sg k < 97 + c := by
  unfold S_lt at q
  simp only [Bool.and_eq_true, decide_eq_true_eq] at q
  exact q
theorem tx_letter_s {c : Nat} (hc : c ≤ 10) (C : C_rd h n m k sg) (hm : m ≤ n) (hn : n ≤ 80) (hk : k ≤ m) (hs : ∀ j, j < n → sg j < 256) : tx_letter (nI 97) (nI c) h = if S_lt sg m c k = true then some (nI (sg k - 97), px_w h 1 2 (nI (k + 1))) else some (-1, px_w h 1 4 (nI k)) := by
  have e16 : tx_letter_16 h = some (-1, px_w h 1 4 (nI k)) := by
    unfold tx_letter_16 tx_refuse
    dsimp only
    rw [C.2.1, bc_0, B_bz0, B_bind, bc_m1]
  unfold tx_letter
  rw [tx_next_s C hm hn hk, B_bind, e16]
  dsimp only
  rw [C.2.1, bc_1, nI_add]
  unfold S_nxt S_lt
  by_cases q : k < m
  · have := hs k (by omega)
    rw [if_pos q, decide_eq_true q, Bool.true_and]
    by_cases w : 97 ≤ sg k
    · rw [decide_eq_true w, Bool.true_and, pk_sub w, if_neg (nI_pos (by omega))]
      by_cases z : sg k < 97 + c
      · rw [if_pos (nI_lt (by omega) (by omega)), decide_eq_true z, if_pos rfl]
      · rw [if_neg (nI_nlt (by omega) (by omega)), decide_eq_false z, if_neg (by decide)]
    · have hd : ∀ x, x < 97 → (nI x - nI 97 < 0) := by decide +kernel
      rw [if_pos (hd _ (by omega)), decide_eq_false w, Bool.false_and, if_neg (by decide)]
  · rw [if_neg q, decide_eq_false q, Bool.false_and, if_pos (by decide), if_neg (by decide)]
/-! the reference -/
theorem mo_passes_0 (M : M_rd h n mo k sg none) (hn : n ≤ 80) (hmo : mo < 2 ^ 31) (hk : k < 1000) (hs : ∀ j, j < n → sg j < 256) {z : Nat} (hz : z < 256) : mo_passes (nI z) h = if k < min n mo ∧ sg k = z then some (nI 1, px_w h 51 18 (nI (k + 1))) else some (0, h) := by
  unfold mo_passes mo_passes_15
  rw [mo_fine_0 M, B_bind, if_neg (by decide), mo_here_s M hn hmo hk hs, B_bind, bc_1, bc_0, B_bz0, B_bz1]
  try dsimp only
  rw [M.2.2.2.1, nI_add]
  simp only [S_nxt_eq hs (Nat.min_le_left n mo) hz]
theorem mo_passes_1 {x : Nat} (hx : x < 2 ^ 31) (M : M_rd h n mo k sg (some x)) (z : Int32) : mo_passes z h = some (0, h) := by
  unfold mo_passes mo_passes_15
  rw [mo_fine_1 hx M, B_bind, if_pos rfl, bc_0, B_bz0]
theorem mo_need_0 (M : M_rd h n mo k sg none) (hn : n ≤ 80) (hmo : mo < 2 ^ 31) (hk : k < 1000) (hs : ∀ j, j < n → sg j < 256) {z : Nat} (hz : z < 256) : mo_need (nI z) h = if k < min n mo ∧ sg k = z then some (0, px_w h 51 18 (nI (k + 1))) else some (0, px_w h 51 19 (nI k)) := by
  unfold mo_need mo_need_16
  rw [mo_passes_0 M hn hmo hk hs hz]
  by_cases q : k < min n mo ∧ sg k = z
  · rw [if_pos q, if_pos q, B_bind, if_neg (by decide)]
  · rw [if_neg q, if_neg q, B_bind, if_pos rfl, M.2.2.2.1, mo_fault_0 M, B_bind]
theorem mo_need_1 {x : Nat} (hx : x < 2 ^ 31) (M : M_rd h n mo k sg (some x)) (z : Int32) : mo_need z h = some (0, h) := by
  unfold mo_need mo_need_16
  rw [mo_passes_1 hx M, B_bind, if_pos rfl, mo_fault_1 hx M, B_bind]
theorem mo_digit_1 {x : Nat} (hx : x < 2 ^ 31) (M : M_rd h n mo k sg (some x)) (a b : Int32) : mo_digit a b h = some (0, h) := by
  unfold mo_digit
  rw [mo_fine_1 hx M, B_bind, if_pos rfl, bc_0]
theorem mo_number_1 {x : Nat} (hx : x < 2 ^ 31) (M : M_rd h n mo k sg (some x)) (a b : Int32) : mo_number_ a b h = some (0, h) := by
  obtain ⟨F, hF⟩ : ∃ F, px_F = F + 1 := ⟨px_F - 1, by have : 100 < px_F := px_F_lt (by omega); omega⟩
  unfold mo_number_ mo_number__32 mo_number
  rw [mo_digit_1 hx M, B_bind, hF]
  have : mo_number_10 (F + 1) (px_c 2) 0 (px_c 1) h = some (0, h) := by
    show (if px_c 2 ≤ px_c 1 then _ else px_bind (mo_fine _) _) = _
    rw [bc_1, bc_2, if_neg (by decide), mo_fine_1 hx M, B_bind, if_pos rfl]
    rfl
  rw [this, B_bind, mo_fine_1 hx M, B_bind, if_pos rfl]
theorem mo_digit_lh {lo hi : Nat} (hlo : lo ≤ 9) (hhi : hi ≤ 9) (M : M_rd h n mo k sg none) (hn : n ≤ 80) (hmo : mo < 2 ^ 31) (hk : k < 1000) (hs : ∀ j, j < n → sg j < 256) : mo_digit (nI lo) (nI hi) h = if S_o1 sg (min n mo) lo hi k = true then some (nI (sg k - 48), px_w h 51 18 (nI (k + 1))) else some (0, px_w h 51 19 (nI k)) := by
  have tl : (nI (48 + lo)).toInt = ((48 + lo : Nat) : Int) := nI_toInt (by omega)
  have th : (nI (48 + hi)).toInt = ((48 + hi : Nat) : Int) := nI_toInt (by omega)
  have hin : mo_in (S_nxt sg (min n mo) k) (nI (48 + lo)) (nI (48 + hi)) h = some (B_01 (S_o1 sg (min n mo) lo hi k), h) := by
    rw [mo_in_eq, tl, th]
    unfold S_nxt S_o1 S_dg
    by_cases q : k < min n mo
    · have := hs k (by omega)
      rw [if_pos q, decide_eq_true q, Bool.true_and, nI_toInt (by omega)]
      congr 3
      by_cases w : 48 + lo ≤ sg k ∧ sg k ≤ 48 + hi
      · rw [decide_eq_true (show 48 ≤ sg k by omega), decide_eq_true (show sg k ≤ 57 by omega), decide_eq_true (show lo ≤ sg k - 48 by omega), decide_eq_true (show sg k - 48 ≤ hi by omega), decide_eq_true (by omega)]
        rfl
      · rw [decide_eq_false (by omega)]
        symm
        rw [← Bool.not_eq_true]
        intro z
        simp only [Bool.and_eq_true, decide_eq_true_eq] at z
        omega
    · rw [if_neg q, decide_eq_false q, Bool.false_and, Bool.false_and, decide_eq_false (fun w => by
        have e : (-1 : Int32).toInt = -1 := by decide
        rw [e] at w
        omega)]
  unfold mo_digit
  rw [mo_fine_0 M, B_bind, if_neg (by decide), mo_here_s M hn hmo hk hs, B_bind, bc_48, nI_add, nI_add, hin, B_bind]
  cases q : S_o1 sg (min n mo) lo hi k with
  | false => rw [if_pos (show B_01 false = 0 from rfl), M.2.2.2.1, mo_fault_0 M, B_bind, bc_0, if_neg (by decide)]
  | true =>
    have q1 := q
    unfold S_o1 at q1
    rw [Bool.and_eq_true] at q1
    obtain ⟨w1, w2, w3⟩ := S_dg_lt q1.1
    have M2 := M.to (k + 1)
    rw [if_neg (show ¬ B_01 true = 0 by decide), if_pos rfl, M.2.2.2.1, bc_1, nI_add]
    dsimp only
    rw [M2.1, M2.2.2.2.1, pk_sub (by omega), Nat.add_sub_cancel, nI_clamp (show 58 < 2 ^ 31 by decide), show (decide (0 ≤ nI 58) && Nat.blt 58 px_N) = true by decide, B_ift, po_58 (by omega), Bool.true_or, B_ift, nI_clamp (by omega), M2.2.2.2.2.2 k (by omega), B_byte_lo (by omega), pk_sub w2]
theorem mo_letter_1 {x : Nat} (hx : x < 2 ^ 31) (M : M_rd h n mo k sg (some x)) (a b c : Int32) : mo_letter a b c h = some (0, h) := by
  unfold mo_letter
  rw [mo_fine_1 hx M, B_bind, if_pos rfl, bc_0]
theorem mo_letter_0 {c : Nat} (hc : c ≤ 10) (x3 : Int32) (M : M_rd h n mo k sg none) (hn : n ≤ 80) (hmo : mo < 2 ^ 31) (hk : k < 1000) (hs : ∀ j, j < n → sg j < 256) : mo_letter (nI 97) (nI c) x3 h = if S_lt sg (min n mo) c k = true ∧ ¬ nI (sg k - 97) = x3 then some (nI (sg k - 97), px_w h 51 18 (nI (k + 1))) else some (0, px_w h 51 19 (nI k)) := by
  have e97 : nI 97 + nI c - nI 1 = nI (96 + c) := by
    rw [nI_add, pk_sub (by omega)]
    congr 1
    omega
  have tl : (nI 97).toInt = 97 := rfl
  have th : (nI (96 + c)).toInt = ((96 + c : Nat) : Int) := nI_toInt (by omega)
  have hin : mo_in (S_nxt sg (min n mo) k) (nI 97) (nI (96 + c)) h = some (B_01 (S_lt sg (min n mo) c k), h) := by
    rw [mo_in_eq, tl, th]
    unfold S_nxt S_lt
    by_cases q : k < min n mo
    · have := hs k (by omega)
      rw [if_pos q, decide_eq_true q, Bool.true_and, nI_toInt (by omega)]
      congr 3
      by_cases w : 97 ≤ sg k ∧ sg k < 97 + c
      · rw [decide_eq_true w.1, decide_eq_true w.2, decide_eq_true (by omega)]
        rfl
      · rw [decide_eq_false (by omega)]
        symm
        rw [← Bool.not_eq_true]
        intro z
        simp only [Bool.and_eq_true, decide_eq_true_eq] at z
        exact w z
    · rw [if_neg q, decide_eq_false q, Bool.false_and, decide_eq_false (fun w => by
        have e : (-1 : Int32).toInt = -1 := by decide
        rw [e] at w
        omega)]
  have e35 : mo_letter_35 h = some (0, px_w h 51 19 (nI k)) := by
    unfold mo_letter_35
    rw [M.2.2.2.1, mo_fault_0 M, B_bind, bc_0]
  have hh := mo_here_s M hn hmo hk hs
  unfold mo_letter
  rw [mo_fine_0 M, B_bind, if_neg (by decide), hh, B_bind, bc_1, e97, hin, B_bind]
  cases q : S_lt sg (min n mo) c k with
  | false => rw [if_pos (show B_01 false = 0 from rfl), e35, if_neg (fun w => by cases w.1)]
  | true =>
    obtain ⟨w1, w2, w3⟩ := S_lt_lt q
    have M2 := M.to (k + 1)
    have ex : S_nxt sg (min n mo) k = nI (sg k) := if_pos w1
    rw [if_neg (show ¬ B_01 true = 0 by decide), hh, B_bind, ex, pk_sub w2]
    by_cases z : nI (sg k - 97) = x3
    · rw [if_pos z, if_neg (fun w => w.2 z), e35]
    · rw [if_neg z, if_pos ⟨rfl, z⟩, M.2.2.2.1, nI_add]
      dsimp only
      rw [M2.1, M2.2.2.2.1, pk_sub (by omega), Nat.add_sub_cancel, nI_clamp (show 58 < 2 ^ 31 by decide), show (decide (0 ≤ nI 58) && Nat.blt 58 px_N) = true by decide, B_ift, po_58 (by omega), Bool.true_or, B_ift, nI_clamp (by omega), M2.2.2.2.2.2 k (by omega), B_byte_lo (by omega), pk_sub w2]
end LETTERS
