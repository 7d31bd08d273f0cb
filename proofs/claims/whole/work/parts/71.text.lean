/-! Layer B: signs put and cut -/
theorem shr_low (x : Int32) {k : Nat} (hk : k ≤ 24) : (x >>> (nI k &&& 31)).toBitVec.toNat % 256 = x.toBitVec.toNat / 2 ^ k % 256 := by
  have h1 := pk_shr x (nI k &&& 31) k (sh_ok2 k (by omega))
  have e1 : (x >>> (nI k &&& 31)).toInt = (x >>> (nI k &&& 31)).toBitVec.toInt := rfl
  have e2 : x.toInt = x.toBitVec.toInt := rfl
  rw [e1, e2] at h1
  generalize (x >>> (nI k &&& 31)).toBitVec = a at h1 ⊢
  generalize x.toBitVec = b at h1 ⊢
  rw [BitVec.toInt_eq_toNat_cond, BitVec.toInt_eq_toNat_cond, Int.shiftRight_eq_div_pow] at h1
  have ha := a.isLt
  have hb := b.isLt
  have hp : (2 : Nat) ^ 32 = 2 ^ k * 2 ^ (32 - k) := by rw [← Nat.pow_add]; congr 1; omega
  have hp2 : (2 : Nat) ^ (32 - k) = 256 * 2 ^ (24 - k) := by rw [show 32 - k = 8 + (24 - k) by omega, Nat.pow_add]
  have hpos : (0 : Int) < ((2 ^ k : Nat) : Int) := by have := Nat.two_pow_pos k; omega
  have hdiv : ((b.toNat : Int) - ((2 ^ 32 : Nat) : Int)) / ((2 ^ k : Nat) : Int) = ((b.toNat / 2 ^ k : Nat) : Int) - ((2 ^ (32 - k) : Nat) : Int) := by
    rw [hp, Int.natCast_mul, Int.sub_mul_ediv_left _ _ (by omega), Int.natCast_ediv]
  by_cases c1 : 2 * a.toNat < 2 ^ 32 <;> by_cases c2 : 2 * b.toNat < 2 ^ 32
  · rw [if_pos c1, if_pos c2, ← Int.natCast_ediv] at h1
    have : a.toNat = b.toNat / 2 ^ k := by exact_mod_cast h1
    rw [this]
  · rw [if_pos c1, if_neg c2, hdiv, hp2] at h1
    generalize b.toNat / 2 ^ k = u at h1 ⊢
    generalize (2 : Nat) ^ (24 - k) = w at h1
    omega
  · rw [if_neg c1, if_pos c2, ← Int.natCast_ediv] at h1
    generalize b.toNat / 2 ^ k = u at h1 ⊢
    omega
  · rw [if_neg c1, if_neg c2, hdiv, hp2] at h1
    generalize b.toNat / 2 ^ k = u at h1 ⊢
    generalize (2 : Nat) ^ (24 - k) = w at h1
    omega
/-- the byte of v at shift s -/
def B_by (v : Int32) (s : Nat) : Nat := v.toBitVec.toNat / 2 ^ s % 256
theorem B_by_lt (v : Int32) (s : Nat) : B_by v s < 256 := Nat.mod_lt _ (by omega)
theorem B_by_c (v : Int32) {s : Nat} (hs : s < 32) : px_nc (px_i2c ((px_ush v (nI s)) &&& nI 255)) = nI (B_by v s) := by
  have e1 : px_ush v (nI s) &&& nI 255 = nI (B_by v s) := by
    unfold px_ush B_by
    rw [pk_and _ 8 (by rfl), pk_ushr v (nI s) s (sh_ok s hs)]
  have hl := B_by_lt v s
  rw [e1]
  have e2 : px_nc (px_i2c (nI (B_by v s))) = px_i2c (nI (B_by v s)) := pk_vc _
  rw [e2]
  unfold px_i2c
  rw [pk_char, pk_tn (by omega), Nat.mod_eq_of_lt (by omega)]
theorem B_byte_toInt {c : Nat} (hc : c < 256) : (B_byte c).toInt = (c : Int).bmod 256 := by
  unfold B_byte
  by_cases q : c < 128
  · rw [if_pos q, nI_toInt (by omega), Int.bmod_def]
    omega
  · rw [if_neg q, pk_sub_toInt (by omega) (by omega), Int.bmod_def]
    omega
theorem B_by_m (v : Int32) {s : Nat} (hs : s ≤ 24) : px_nb (px_i2b (v >>> (nI s &&& 31))) = B_byte (B_by v s) := by
  have e1 : px_nb (px_i2b (v >>> (nI s &&& 31))) = px_i2b (v >>> (nI s &&& 31)) := pk_vb _
  rw [e1]
  unfold px_i2b
  apply Int32.toInt_inj.mp
  rw [Int8.toInt_toInt32, Int32.toInt_toInt8, B_byte_toInt (B_by_lt v s)]
  have h1 := shr_low v hs
  have e2 : (v >>> (nI s &&& 31)).toInt = (v >>> (nI s &&& 31)).toBitVec.toInt := rfl
  rw [e2]
  unfold B_by
  rw [← h1]
  generalize (v >>> (nI s &&& 31)).toBitVec = a
  rw [BitVec.toInt_eq_toNat_cond, Int.bmod_def, Int.bmod_def]
  have ha := a.isLt
  by_cases c1 : 2 * a.toNat < 2 ^ 32
  · rw [if_pos c1]
    omega
  · rw [if_neg c1]
    omega
theorem bn_am8 (k : Nat) : nI (k + 8) + -8 = nI k := by
  have : nI (k + 8) = nI k + nI 8 := (nI_add k 8).symm
  rw [this, Int32.add_assoc]
  have e : nI 8 + -8 = 0 := rfl
  rw [e, Int32.add_zero]
theorem bn_am1 (k : Nat) : nI (k + 1) + -1 = nI k := by
  have : nI (k + 1) = nI k + nI 1 := (nI_add k 1).symm
  rw [this, Int32.add_assoc]
  have e : nI 1 + -1 = 0 := rfl
  rw [e, Int32.add_zero]
section TEXT
variable {i : Nat} {h : pH}
theorem tx_add_step {n k z : Nat} {v : Int32} (hk : k < 32) (hz : z < 80) (h1 : h 1 1 = nI z) : tx_add_14 (n + 1) v (nI k) h = tx_add_64 (tx_add_14 n) v (nI k) (px_w (px_w h 2 z (nI (B_by v k))) 1 1 (nI (z + 1))) := by
  have e80 : px_len 2 = 80 := rfl
  show (if nI k < 0 then _ else _) = _
  rw [if_neg (nI_pos (by omega)), h1, if_neg (nI_pos (by omega)), e80, if_neg (nI_ge (by omega) (by omega)), po_2 hz, B_ift, bc_255, B_by_c v hk, nI_clamp (by omega), bc_1]
  show tx_add_64 _ _ _ (px_w (px_w h 2 z (nI (B_by v k))) 1 1 ((px_w h 2 z (nI (B_by v k))) 1 1 + nI 1)) = _
  rw [B_w_cell _ _ _ (by decide), h1, nI_add]
def B_sgc (h : pH) (z : Nat) (v : Int32) : pH := px_w (px_w (px_w (px_w (px_w h 2 z (nI (B_by v 24))) 2 (z + 1) (nI (B_by v 16))) 2 (z + 2) (nI (B_by v 8))) 2 (z + 3) (nI (B_by v 0))) 1 1 (nI (z + 4))
theorem tx_add_s {z : Nat} {v : Int32} (hz : z ≤ 76) (h1 : h 1 1 = nI z) : tx_add v h = some (nI 1, B_sgc h z v) := by
  obtain ⟨n, hn⟩ : ∃ n, px_F = n + 5 := ⟨px_F - 5, by have : 5 < px_F := px_F_lt (by omega); omega⟩
  unfold tx_add
  rw [h1, bc_76, if_pos (nI_le hz (by omega)), hn, bc_24]
  rw [show n + 5 = (n + 4) + 1 from rfl, tx_add_step (by omega) (by omega) h1]
  unfold tx_add_64
  rw [bc_m8, bn_am8 16, show n + 4 = (n + 3) + 1 from rfl, tx_add_step (by omega) (show z + 1 < 80 by omega) (B_w_same _ _ _ _)]
  unfold tx_add_64
  rw [bc_m8, bn_am8 8, show n + 3 = (n + 2) + 1 from rfl, tx_add_step (by omega) (show z + 1 + 1 < 80 by omega) (B_w_same _ _ _ _)]
  unfold tx_add_64
  rw [bc_m8, bn_am8 0, show n + 2 = (n + 1) + 1 from rfl, tx_add_step (by omega) (show z + 1 + 1 + 1 < 80 by omega) (B_w_same _ _ _ _)]
  unfold tx_add_64
  have em : nI 0 + px_c (-8) = -8 := by rw [bc_m8]; rfl
  rw [em]
  show (if (-8 : Int32) < 0 then px_bz (px_c 1) _ else _) = _
  rw [if_pos (by decide), bc_1, B_bz1]
  unfold B_sgc
  refine congrArg some (Prod.ext rfl ?_)
  show px_w (px_w (px_w (px_w (px_w (px_w (px_w (px_w h 2 z _) 1 1 _) 2 (z + 1) _) 1 1 _) 2 (z + 2) _) 1 1 _) 2 (z + 3) _) 1 1 _ = _
  have c12 : ∀ (h : pH) (k j : Nat) (u v : Int32), px_w (px_w h 1 k u) 2 j v = px_w (px_w h 2 j v) 1 k u := fun h k j u v => px_w_comm h u v (by decide)
  simp only [c12, px_w_w]
theorem mo_sign_step {n k z : Nat} {v : Int32} (hk : k ≤ 3) (hz : z < 80) (h1 : h 51 11 = nI z) : mo_sign_20 (n + 1) v (nI k) h = mo_sign_47 (mo_sign_20 n) v (nI k) (px_w (px_w h 51 11 (nI (z + 1))) 58 z (B_byte (B_by v (8 * k)))) := by
  show (if nI k < 0 then _ else _) = _
  rw [if_neg (nI_pos (by omega)), h1, po_58 hz, B_ift, bc_1, nI_add, bc_8, pk_mul, B_by_m v (by omega), nI_clamp (by omega)]
def B_sgm (h : pH) (z : Nat) (v : Int32) : pH := px_w (px_w (px_w (px_w (px_w h 51 11 (nI (z + 4))) 58 z (B_byte (B_by v 24))) 58 (z + 1) (B_byte (B_by v 16))) 58 (z + 2) (B_byte (B_by v 8))) 58 (z + 3) (B_byte (B_by v 0))
theorem mo_sign_s {z : Nat} {v : Int32} (hz : z ≤ 76) (h1 : h 51 11 = nI z) : mo_sign_20 px_F v (nI 3) h = some (nI (z + 4), B_sgm h z v) := by
  obtain ⟨n, hn⟩ : ∃ n, px_F = n + 5 := ⟨px_F - 5, by have : 5 < px_F := px_F_lt (by omega); omega⟩
  rw [hn, show n + 5 = (n + 4) + 1 from rfl, mo_sign_step (by omega) (by omega) h1]
  unfold mo_sign_47
  rw [bc_m1, bn_am1 2, show n + 4 = (n + 3) + 1 from rfl, mo_sign_step (by omega) (show z + 1 < 80 by omega) (by rw [B_w_cell _ _ _ (by decide), B_w_same])]
  unfold mo_sign_47
  rw [bc_m1, bn_am1 1, show n + 3 = (n + 2) + 1 from rfl, mo_sign_step (by omega) (show z + 1 + 1 < 80 by omega) (by rw [B_w_cell _ _ _ (by decide), B_w_same])]
  unfold mo_sign_47
  rw [bc_m1, bn_am1 0, show n + 2 = (n + 1) + 1 from rfl, mo_sign_step (by omega) (show z + 1 + 1 + 1 < 80 by omega) (by rw [B_w_cell _ _ _ (by decide), B_w_same])]
  unfold mo_sign_47
  have em : nI 0 + px_c (-1) = -1 := by rw [bc_m1]; rfl
  rw [em]
  show (if (-1 : Int32) < 0 then some (_, _) else _) = _
  rw [if_pos (by decide)]
  unfold B_sgm
  have eh : ∀ x y : pH, x = y → some (x 51 11, x) = (some (y 51 11, y) : pR) := fun x y e => by rw [e]
  have e1 : px_w (px_w (px_w (px_w (px_w (px_w (px_w (px_w h 51 11 (nI (z + 1))) 58 z (B_byte (B_by v (8 * 3)))) 51 11 (nI (z + 1 + 1))) 58 (z + 1) (B_byte (B_by v (8 * 2)))) 51 11 (nI (z + 1 + 1 + 1))) 58 (z + 1 + 1) (B_byte (B_by v (8 * 1)))) 51 11 (nI (z + 1 + 1 + 1 + 1))) 58 (z + 1 + 1 + 1) (B_byte (B_by v (8 * 0))) = px_w (px_w (px_w (px_w (px_w h 51 11 (nI (z + 4))) 58 z (B_byte (B_by v 24))) 58 (z + 1) (B_byte (B_by v 16))) 58 (z + 2) (B_byte (B_by v 8))) 58 (z + 3) (B_byte (B_by v 0)) := by
    have c85 : ∀ (h : pH) (k j : Nat) (u v : Int32), px_w (px_w h 58 k u) 51 j v = px_w (px_w h 51 j v) 58 k u := fun h k j u v => px_w_comm h u v (by decide)
    simp only [c85, px_w_w]
  refine (eh _ _ e1).trans ?_
  refine congrArg some (Prod.ext ?_ rfl)
  dsimp only
  rw [B_w_cell _ _ _ (by decide), B_w_cell _ _ _ (by decide), B_w_cell _ _ _ (by decide), B_w_cell _ _ _ (by decide), B_w_same]
theorem B_end (hI : Inv i h) (v0 : Int32) : ∃ r h1 h2, wu_end v0 h = some (r, h1) ∧ mo_end v0 h1 = some (r, h2) ∧ Inv (i + 5) h2 := by
  refine B_call hI (fun P T K Y n S ev I r R M W => ?_)
  obtain ⟨x1, x2, x3, x4⟩ := I.2.2.2.1
  have e11 : (B_t0 h) 51 11 = nI n := by rw [B_t0_at h (by decide), x3]
  by_cases hq : 0 ≤ v0.toInt ∧ v0.toInt ≤ (n : Int)
  · have hv : ∃ k, k ≤ n ∧ v0 = nI k := by
      refine ⟨v0.toInt.toNat, by omega, ?_⟩
      apply Int32.toInt_inj.mp
      rw [nI_toInt (by omega)]
      omega
    obtain ⟨k, hk, rfl⟩ := hv
    refine ⟨nI 1, px_w h 1 1 (nI k), px_w (px_w (px_w h 1 1 (nI k)) 51 14 0) 51 11 (nI k), ?_, ?_, ?_⟩
    · unfold wu_end tx_cut
      rw [x2, if_neg (nI_pos (by omega)), if_pos (nI_le hk (by omega)), bc_1, B_bz1, B_bind, B_bz1]
    · unfold mo_end
      have e0 : ((0 : Int32)).toInt = 0 := rfl
      have e1 : (px_w (px_w h 1 1 (nI k)) 51 14 (px_c 0)) 51 11 = nI n := by rw [B_w_at, if_neg (by decide), B_w_cell _ _ _ (by decide), x3]
      show px_bind (mo_in (nI k) (px_c 0) ((px_w (px_w h 1 1 (nI k)) 51 14 (px_c 0)) 51 11) _) _ = _
      rw [e1, mo_in_eq, bc_0, e0, nI_toInt (by omega), nI_toInt (by omega), decide_eq_true (by omega), B_bind, B_01_t, if_neg (by decide)]
      unfold mo_end_24
      rw [bc_1, B_bz1]
    · obtain ⟨-, M0, -, -, V, E, L⟩ := I
      have E' := E.up (show i ≤ i + 5 by omega)
      refine ⟨P, T, K, Y, k, S, ev, ⟨?_, ?_, W, ⟨by omega, ?_, ?_, fun j hj => ?_⟩, ?_, ?_, ?_⟩, ?_⟩
      · unfold R_c at *
        simpa (disch := omega) only [B_w_same, B_w_cell, B_w_at, if_pos, if_neg] using R
      · unfold R_m R_k R_a at *
        simpa (disch := omega) only [B_w_same, B_w_cell, B_w_at, if_pos, if_neg] using M0
      · simp (disch := omega) only [B_w_same, B_w_cell, B_w_at, if_pos, if_neg]
      · simp (disch := omega) only [B_w_same, B_w_cell, B_w_at, if_pos, if_neg]
      · obtain ⟨c, c1, c2, c3⟩ := x4 j (by omega)
        refine ⟨c, c1, ?_, ?_⟩
        · simpa (disch := omega) only [B_w_same, B_w_cell, B_w_at, if_pos, if_neg] using c2
        · simpa (disch := omega) only [B_w_same, B_w_cell, B_w_at, if_pos, if_neg] using c3
      · unfold I_und at *
        simpa (disch := omega) only [B_w_same, B_w_cell, B_w_at, if_pos, if_neg] using V
      · unfold I_kep at *
        simpa (disch := omega) only [B_w_same, B_w_cell, B_w_at, if_pos, if_neg] using E'
      · unfold I_rul at *
        simpa (disch := omega) only [B_w_same, B_w_cell, B_w_at, if_pos, if_neg] using L
      · unfold I_row at *
        simpa (disch := omega) only [B_w_same, B_w_cell, B_w_at, if_pos, if_neg] using r
  · refine ⟨0, h, B_t0 h, ?_, ?_, B_qr I r⟩
    · have hz : tx_cut v0 h = some (0, h) := by
        unfold tx_cut tx_cut_12
        by_cases q : v0 < 0
        · rw [if_pos q, bc_0, B_bz0]
        · rw [if_neg q, x2]
          rw [lt0_toInt] at q
          have : ¬ v0 ≤ nI n := by
            rw [Int32.le_iff_toInt_le, nI_toInt (by omega)]
            omega
          rw [if_neg this, bc_0, B_bz0]
      unfold wu_end
      rw [hz, B_bind, B_bz0]
    · unfold mo_end
      rw [bc_0]
      show px_bind (mo_in v0 0 ((B_t0 h) 51 11) (B_t0 h)) _ = _
      have e0 : ((0 : Int32)).toInt = 0 := rfl
      rw [e11, mo_in_eq, e0, nI_toInt (by omega), decide_eq_false hq, B_bind, B_01_f, if_pos rfl, B_bz0]
theorem B_sign (hI : Inv i h) (v0 : Int32) : ∃ r h1 h2, wu_sign v0 h = some (r, h1) ∧ mo_sign v0 h1 = some (r, h2) ∧ Inv (i + 5) h2 := by
  refine B_call hI (fun P T K Y n S ev I r R M W => ?_)
  obtain ⟨x1, x2, x3, x4⟩ := I.2.2.2.1
  by_cases hq : n ≤ 76
  · have e11 : (B_t0 (B_sgc h n v0)) 51 11 = nI n := by
      rw [B_t0_at _ (by decide)]
      unfold B_sgc
      simpa (disch := omega) only [B_w_same, B_w_cell, B_w_at, if_pos, if_neg] using x3
    refine ⟨nI (n + 4), B_sgc h n v0, B_sgm (B_t0 (B_sgc h n v0)) n v0, ?_, ?_, ?_⟩
    · unfold wu_sign
      rw [tx_add_s hq x2, B_bind, if_neg (by decide)]
      unfold wu_sign_22
      refine congrArg some (Prod.ext ?_ rfl)
      show B_sgc h n v0 1 1 = _
      unfold B_sgc
      rw [B_w_same]
    · unfold mo_sign
      rw [bc_0]
      show (if (B_t0 (B_sgc h n v0)) 51 11 + px_c 4 ≤ px_c 80 then mo_sign_20 px_F v0 (px_c 3) (B_t0 (B_sgc h n v0)) else _) = _
      rw [e11, bc_4, nI_add, bc_80, if_pos (nI_le (by omega) (by omega)), bc_3, mo_sign_s hq e11]
    · obtain ⟨-, M0, -, -, V, E, L⟩ := I
      have E' := E.up (show i ≤ i + 5 by omega)
      unfold B_sgm B_t0 B_sgc
      refine ⟨P, T, K, Y, n + 4, S, ev, ⟨?_, ?_, W, ⟨by omega, ?_, ?_, fun j hj => ?_⟩, ?_, ?_, ?_⟩, ?_⟩
      · unfold R_c at *
        simpa (disch := omega) only [B_w_same, B_w_cell, B_w_at, if_pos, if_neg] using R
      · unfold R_m R_k R_a at *
        simpa (disch := omega) only [B_w_same, B_w_cell, B_w_at, if_pos, if_neg] using M0
      · simp (disch := omega) only [B_w_same, B_w_cell, B_w_at, if_pos, if_neg]
      · simp (disch := omega) only [B_w_same, B_w_cell, B_w_at, if_pos, if_neg]
      · by_cases j0 : j = n
        · subst j0
          exact ⟨B_by v0 24, B_by_lt _ _, by simp (disch := omega) only [B_w_same, B_w_cell, B_w_at, if_pos, if_neg], by simp (disch := omega) only [B_w_same, B_w_cell, B_w_at, if_pos, if_neg]⟩
        · by_cases j1 : j = n + 1
          · subst j1
            exact ⟨B_by v0 16, B_by_lt _ _, by simp (disch := omega) only [B_w_same, B_w_cell, B_w_at, if_pos, if_neg], by simp (disch := omega) only [B_w_same, B_w_cell, B_w_at, if_pos, if_neg]⟩
          · by_cases j2 : j = n + 2
            · subst j2
              exact ⟨B_by v0 8, B_by_lt _ _, by simp (disch := omega) only [B_w_same, B_w_cell, B_w_at, if_pos, if_neg], by simp (disch := omega) only [B_w_same, B_w_cell, B_w_at, if_pos, if_neg]⟩
            · by_cases j3 : j = n + 3
              · subst j3
                exact ⟨B_by v0 0, B_by_lt _ _, by simp (disch := omega) only [B_w_same, B_w_cell, B_w_at, if_pos, if_neg], by simp (disch := omega) only [B_w_same, B_w_cell, B_w_at, if_pos, if_neg]⟩
              · obtain ⟨c, c1, c2, c3⟩ := x4 j (by omega)
                refine ⟨c, c1, ?_, ?_⟩
                · simpa (disch := omega) only [B_w_same, B_w_cell, B_w_at, if_pos, if_neg] using c2
                · simpa (disch := omega) only [B_w_same, B_w_cell, B_w_at, if_pos, if_neg] using c3
      · unfold I_und at *
        simpa (disch := omega) only [B_w_same, B_w_cell, B_w_at, if_pos, if_neg] using V
      · unfold I_kep at *
        simpa (disch := omega) only [B_w_same, B_w_cell, B_w_at, if_pos, if_neg] using E'
      · unfold I_rul at *
        simpa (disch := omega) only [B_w_same, B_w_cell, B_w_at, if_pos, if_neg] using L
      · unfold I_row at *
        simpa (disch := omega) only [B_w_same, B_w_cell, B_w_at, if_pos, if_neg] using r
  · refine ⟨-1, h, B_t0 h, ?_, ?_, B_qr I r⟩
    · unfold wu_sign tx_add
      rw [x2, bc_76, if_neg (nI_ge (by omega) (by omega)), bc_0, B_bz0, B_bind, if_pos rfl, bc_m1]
      rfl
    · unfold mo_sign
      rw [bc_0]
      show (if (B_t0 h) 51 11 + px_c 4 ≤ px_c 80 then _ else some (px_c (-1), B_t0 h)) = _
      rw [B_t0_at h (by decide), x3, bc_4, nI_add, bc_80, if_neg (nI_ge (by omega) (by omega)), bc_m1]
end TEXT
