/-! Layer B: who and what is there -/
def B_01 (b : Bool) : Int32 := if b = true then 1 else 0
theorem B_01_bz (b : Bool) (h : pH) : px_bz (B_01 b) h = some (B_01 b, h) := by
  cases b <;> rfl
theorem B_01_0 {b : Bool} : B_01 b = 0 ↔ b = false := by
  cases b <;> decide
/-- a number below n -/
def B_is (x : Int32) (n : Nat) : Bool := decide (0 ≤ x.toInt ∧ x.toInt < (n : Int))
theorem B_is_nI {k n : Nat} (hk : k < 2 ^ 31) : B_is (nI k) n = decide (k < n) := by
  unfold B_is
  rw [nI_toInt hk]
  by_cases h : k < n
  · rw [decide_eq_true h]
    exact decide_eq_true ⟨by omega, by omega⟩
  · rw [decide_eq_false h]
    exact decide_eq_false (by omega)
theorem B_is_ex {x : Int32} {n : Nat} (h : B_is x n = true) (hn : n < 2 ^ 31) : ∃ k, k < n ∧ x = nI k := by
  have h1 := of_decide_eq_true h
  refine ⟨x.toInt.toNat, by omega, ?_⟩
  apply Int32.toInt_inj.mp
  rw [nI_toInt (by omega)]
  omega
theorem lt0_toInt {x : Int32} : x < 0 ↔ x.toInt < 0 := by
  rw [Int32.lt_iff_toInt_lt]
  exact Iff.rfl
theorem mo_in_eq (x a b : Int32) {h : pH} : mo_in x a b h = some (B_01 (decide (a.toInt ≤ x.toInt ∧ x.toInt ≤ b.toInt)), h) := by
  unfold mo_in
  by_cases h1 : x < a
  · rw [if_pos h1]
    rw [Int32.lt_iff_toInt_lt] at h1
    rw [decide_eq_false (by omega)]
    show px_bz (px_c 0) h = _
    rw [pc_0]
    rfl
  · rw [if_neg h1]
    rw [Int32.lt_iff_toInt_lt] at h1
    by_cases h2 : b < x
    · rw [if_pos h2]
      rw [Int32.lt_iff_toInt_lt] at h2
      rw [decide_eq_false (by omega)]
      show px_bz (px_c 0) h = _
      rw [pc_0]
      rfl
    · rw [if_neg h2]
      rw [Int32.lt_iff_toInt_lt] at h2
      rw [decide_eq_true (by omega)]
      show px_bz (px_c 1) h = _
      rw [pc_1]
      rfl
theorem mo_in0_eq (x : Int32) {y : Int32} {n : Nat} {h : pH} (hy : y = nI n) (hn : n < 2 ^ 30) : mo_in x (px_c 0) (y - px_c 1) h = some (B_01 (B_is x n), h) := by
  rw [mo_in_eq, pc_0, pc_1, hy]
  have h1 : (nI n - 1).toInt = (n : Int) - 1 := pk_sub_toInt (a := n) (b := 1) hn (by decide)
  have h2 : (0 : Int32).toInt = 0 := rfl
  rw [h1, h2]
  unfold B_is
  have h3 : decide (0 ≤ x.toInt ∧ x.toInt ≤ (n : Int) - 1) = decide (0 ≤ x.toInt ∧ x.toInt < (n : Int)) := decide_eq_decide.mpr (by omega)
  rw [h3]
theorem mo_isPerson_eq (x : Int32) {P : Nat} {h : pH} (hP : h 51 4 = nI P) (h6 : P ≤ 6) : mo_isPerson x h = some (B_01 (B_is x P), h) := by
  unfold mo_isPerson
  rw [px_bind_eq (mo_in0_eq x hP (by omega)), B_01_bz]
theorem mo_isThing_eq (x : Int32) {T : Nat} {h : pH} (hT : h 51 6 = nI T) (h6 : T ≤ 10) : mo_isThing x h = some (B_01 (B_is x T), h) := by
  unfold mo_isThing
  rw [px_bind_eq (mo_in0_eq x hT (by omega)), B_01_bz]
theorem B_is_2 (x : Int32) {n : Nat} (hn : n < 2 ^ 31) : B_is x n = (!decide (x < 0) && !decide (nI n ≤ x)) := by
  unfold B_is
  by_cases h1 : x < 0
  · rw [decide_eq_true h1]
    rw [lt0_toInt] at h1
    exact decide_eq_false (by omega)
  · rw [decide_eq_false h1]
    rw [lt0_toInt] at h1
    by_cases h2 : nI n ≤ x
    · rw [decide_eq_true h2]
      rw [Int32.le_iff_toInt_le, nI_toInt hn] at h2
      exact decide_eq_false (by omega)
    · rw [decide_eq_false h2]
      rw [Int32.le_iff_toInt_le, nI_toInt hn] at h2
      exact decide_eq_true (by omega)
theorem hs_hasPerson_eq (x : Int32) {P : Nat} {h : pH} (hP : h 3 10 = nI P) (h6 : P ≤ 6) : hs_hasPerson x h = some (B_01 (B_is x P), h) := by
  unfold hs_hasPerson
  rw [hP, B_is_2 x (by omega)]
  by_cases h1 : x < 0
  · rw [if_pos h1, decide_eq_true h1]
    show px_bz (px_c 0) h = _
    rw [pc_0]
    rfl
  · rw [if_neg h1, decide_eq_false h1]
    by_cases h2 : nI P ≤ x
    · rw [if_pos h2, decide_eq_true h2]
      show px_bz (px_c 0) h = _
      rw [pc_0]
      rfl
    · rw [if_neg h2, decide_eq_false h2]
      show px_bz (px_c 1) h = _
      rw [pc_1]
      rfl
