/-! LAYER B: the plain functions. Small ones first -/
theorem pc_0 : px_c 0 = 0 := (px_c_eq 0).trans rfl
theorem pc_1 : px_c 1 = 1 := (px_c_eq 1).trans rfl
theorem pc_2 : px_c 2 = 2 := (px_c_eq 2).trans rfl
theorem pc_31 : px_c 31 = 31 := (px_c_eq 31).trans rfl
theorem pc_32 : px_c 32 = 32 := (px_c_eq 32).trans rfl
theorem pc_m1 : px_c (-1) = -1 := (px_c_eq (-1)).trans rfl
/-- a constant that is a small number -/
theorem pc_n (n : Nat) : px_c (n : Int) = nI n := (px_c_eq n).trans (by
  unfold nI
  apply Int32.toInt_inj.mp
  rw [Int32.toInt_ofInt, Int32.toInt_ofNat'])
theorem px_bind_eq {x : pR} {r : Int32} {h : pH} {f : Int32 → pH → pR} (e : x = some (r, h)) : px_bind x f = f r h := by rw [e]; rfl
theorem px_if_t {b : Bool} {x : pR} (h : b = true) : px_if b x = x := by rw [h]; rfl
/-- what a row has at a place; 0 beside it -/
def B_at (h : pH) (a : Nat) (x : Int32) : Int32 := if px_ok 0 a x = true then h a x.toNatClampNeg else 0
def B_put (h : pH) (a : Nat) (x v : Int32) : pH := if px_ok 0 a x = true then px_w h a x.toNatClampNeg v else h
theorem px_ok_n {t a : Nat} {x : Int32} (ht : px_tag a = t) (h0 : ¬ x < 0) (h1 : x.toNatClampNeg < px_len a) : px_ok t a x = true := by
  unfold px_ok
  rw [ht, Bool.and_eq_true, Bool.and_eq_true]
  refine ⟨Nat.beq_refl t, decide_eq_true ?_, by simpa [Nat.blt_eq] using h1⟩
  rw [Int32.lt_iff_toInt_lt] at h0
  rw [Int32.le_iff_toInt_le]
  omega
theorem i32_clamp {x : Int32} (h : ¬ x < 0) : (x.toNatClampNeg : Int) = x.toInt := by
  rw [Int32.lt_iff_toInt_lt] at h
  change ¬ x.toInt < 0 at h
  show ((x.toInt.toNat : Nat) : Int) = x.toInt
  omega
theorem wu_at_eq {a : Nat} {x : Int32} {h : pH} (ht : px_tag a = 0) (hn : px_len a < 2 ^ 31) : wu_at a x h = some (B_at h a x, h) := by
  have hb : Nat.blt (px_tag a) 4 = true := by rw [ht]; rfl
  unfold wu_at B_at
  by_cases h0 : x < 0
  · rw [if_pos h0]
    have : ¬ px_ok 0 a x = true := fun q => (px_ok_some q).2 (Or.inl h0)
    rw [if_neg this]
    show some (px_c 0, h) = _
    rw [pc_0]
  · rw [if_neg h0, px_if_t hb]
    have hc := i32_clamp h0
    by_cases h1 : nI (px_len a) ≤ x
    · rw [if_pos h1]
      have : ¬ px_ok 0 a x = true := fun q => (px_ok_some q).2 (Or.inr (by
        rw [Int32.le_iff_toInt_le, nI_toInt hn] at h1
        omega))
      rw [if_neg this]
      show some (px_c 0, h) = _
      rw [pc_0]
    · rw [if_neg h1]
      have h2 : x.toNatClampNeg < px_len a := by
        rw [Int32.le_iff_toInt_le, nI_toInt hn] at h1
        omega
      have h3 := px_ok_n ht h0 h2
      rw [px_if_t h3, if_pos h3]
      rfl
