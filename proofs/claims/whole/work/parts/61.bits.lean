/-! Layer B: rows written, bits -/
theorem wu_put_eq {a : Nat} {x v : Int32} {h : pH} (ht : px_tag a = 0) (hn : px_len a < 2 ^ 31) : wu_put a x v h = some (0, B_put h a x v) := by
  have hb : Nat.blt (px_tag a) 4 = true := by rw [ht]; rfl
  unfold wu_put B_put
  by_cases h0 : x < 0
  · rw [if_pos h0]
    have : ¬ px_ok 0 a x = true := fun q => (px_ok_some q).2 (Or.inl h0)
    rw [if_neg this]
    rfl
  · rw [if_neg h0, px_if_t hb]
    have hc := i32_clamp h0
    by_cases h1 : nI (px_len a) ≤ x
    · rw [if_pos h1]
      have : ¬ px_ok 0 a x = true := fun q => (px_ok_some q).2 (Or.inr (by
        rw [Int32.le_iff_toInt_le, nI_toInt hn] at h1
        omega))
      rw [if_neg this]
      rfl
    · rw [if_neg h1]
      have h2 : x.toNatClampNeg < px_len a := by
        rw [Int32.le_iff_toInt_le, nI_toInt hn] at h1
        omega
      have h3 := px_ok_n ht h0 h2
      rw [px_if_t h3, if_pos h3]
      rfl
/-- bit k of an int -/
def B_bit (x : Int32) (k : Nat) : Bool := decide (x.toBitVec.toNat / 2 ^ k % 2 = 1)
theorem sh_ok : ∀ k : Nat, k < 32 → (((nI k).toUInt32 &&& Int32.toUInt32 31).toBitVec % 32).toNat = k := by decide +kernel
theorem sh_ok2 : ∀ k : Nat, k < 32 → ((nI k &&& 31).toBitVec.smod 32).toNat = k := by decide +kernel
theorem ush_bit (x : Int32) {k : Nat} (hk : k < 32) : px_ush x (nI k) &&& 1 = nI (x.toBitVec.toNat / 2 ^ k % 2) := by
  unfold px_ush
  rw [pk_and _ 1 (by rfl), pk_ushr x (nI k) k (sh_ok k hk)]
theorem shr_bit (x : Int32) {k : Nat} (hk : k < 32) : (x >>> (nI k &&& 31)) &&& 1 = nI (x.toBitVec.toNat / 2 ^ k % 2) := by
  rw [pk_and _ 1 (by rfl)]
  have h1 := pk_shr x (nI k &&& 31) k (sh_ok2 k hk)
  have e1 : (x >>> (nI k &&& 31)).toInt = (x >>> (nI k &&& 31)).toBitVec.toInt := rfl
  have e2 : x.toInt = x.toBitVec.toInt := rfl
  rw [e1, e2] at h1
  generalize (x >>> (nI k &&& 31)).toBitVec = a at h1 ⊢
  generalize x.toBitVec = b at h1 ⊢
  congr 1
  rw [BitVec.toInt_eq_toNat_cond, BitVec.toInt_eq_toNat_cond, Int.shiftRight_eq_div_pow] at h1
  have ha := a.isLt
  have hb := b.isLt
  have hp : (2 : Nat) ^ 32 = 2 ^ k * 2 ^ (32 - k) := by rw [← Nat.pow_add]; congr 1; omega
  have hp2 : (2 : Nat) ^ (32 - k) = 2 * 2 ^ (31 - k) := by rw [show 32 - k = (31 - k) + 1 by omega, Nat.pow_succ]; omega
  have hpos : (0 : Int) < ((2 ^ k : Nat) : Int) := by have := Nat.two_pow_pos k; omega
  have hdiv : ((b.toNat : Int) - ((2 ^ 32 : Nat) : Int)) / ((2 ^ k : Nat) : Int) = ((b.toNat / 2 ^ k : Nat) : Int) - ((2 ^ (32 - k) : Nat) : Int) := by
    rw [hp, Int.natCast_mul, Int.sub_mul_ediv_left _ _ (by omega), Int.natCast_ediv]
  by_cases c1 : 2 * a.toNat < 2 ^ 32 <;> by_cases c2 : 2 * b.toNat < 2 ^ 32
  · rw [if_pos c1, if_pos c2, ← Int.natCast_ediv] at h1
    have : a.toNat = b.toNat / 2 ^ k := by exact_mod_cast h1
    rw [this]
  · rw [if_pos c1, if_neg c2, hdiv, hp2] at h1
    generalize b.toNat / 2 ^ k = u at h1 ⊢
    generalize (2 : Nat) ^ (31 - k) = w at h1
    omega
  · rw [if_neg c1, if_pos c2, ← Int.natCast_ediv] at h1
    generalize b.toNat / 2 ^ k = u at h1 ⊢
    omega
  · rw [if_neg c1, if_neg c2, hdiv, hp2] at h1
    generalize b.toNat / 2 ^ k = u at h1 ⊢
    generalize (2 : Nat) ^ (31 - k) = w at h1
    omega
theorem B_b01 (x : Int32) (k : Nat) : nI (x.toBitVec.toNat / 2 ^ k % 2) = if B_bit x k = true then 1 else 0 := by
  unfold B_bit
  by_cases h : x.toBitVec.toNat / 2 ^ k % 2 = 1
  · rw [if_pos (decide_eq_true h), h]
    rfl
  · have h2 : x.toBitVec.toNat / 2 ^ k % 2 = 0 := by omega
    rw [if_neg (by simpa using h), h2]
    rfl
/-- has(): a bit that is there -/
theorem wu_has_eq (x : Int32) {k : Nat} {h : pH} (hk : k < 32) : wu_has x (nI k) h = some (if B_bit x k = true then 1 else 0, h) := by
  unfold wu_has
  rw [if_neg (nI_pos (by omega)), pc_32, if_neg (show ¬ (32 : Int32) ≤ nI k from by
    rw [Int32.le_iff_toInt_le, nI_toInt (by omega)]
    change ¬ (32 : Int) ≤ (k : Int)
    omega), pc_1, ush_bit x hk, B_b01]
  by_cases hb : B_bit x k = true
  · rw [if_pos hb, if_pos rfl]
    rfl
  · rw [if_neg hb, if_neg (by decide)]
    show px_bz (px_c 0) h = _
    rw [pc_0]
    rfl
theorem mo_has_eq (x : Int32) {k : Nat} {h : pH} (hk : k < 32) : mo_has x (nI k) h = some (if B_bit x k = true then 1 else 0, h) := by
  unfold mo_has
  rw [pc_1, shr_bit x hk, B_b01]
  by_cases hb : B_bit x k = true
  · rw [if_pos hb, if_pos rfl]
    rfl
  · rw [if_neg hb, if_neg (by decide)]
    show px_bz (px_c 0) h = _
    rw [pc_0]
    rfl
theorem wu_has_neg (x : Int32) {y : Int32} {h : pH} (hy : y < 0) : wu_has x y h = some (0, h) := by
  unfold wu_has
  rw [if_pos hy]
  show px_bz (px_c 0) h = _
  rw [pc_0]
  rfl
