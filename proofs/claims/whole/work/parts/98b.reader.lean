/-! Layer B: reading the text -/
section READ
variable {h : pH} {n m k : Nat} {sg : Nat → Nat}
def S_nxt (sg : Nat → Nat) (m k : Nat) : Int32 := if k < m then nI (sg k) else -1
def C_rd (h : pH) (n m k : Nat) (sg : Nat → Nat) : Prop := h 1 1 = nI n ∧ h 1 2 = nI k ∧ h 1 3 = nI m ∧ ∀ j, j < n → h 2 j = nI (sg j)
def E_tx : Nat → Nat → Bool := fun a k => match a with
  | 1 => [2, 3, 4].contains k
  | _ => false
theorem tx_next_s (C : C_rd h n m k sg) (hm : m ≤ n) (hn : n ≤ 80) (hk : k ≤ m) : tx_next h = some (S_nxt sg m k, h) := by
  obtain ⟨c1, c2, c3, cs⟩ := C
  have e80 : px_len 2 = 80 := rfl
  unfold tx_next S_nxt
  rw [c2, c3, e80, if_neg (nI_pos (by omega))]
  by_cases q : k < m
  · rw [if_pos q, if_neg (nI_ge (by omega) (by omega)), if_neg (nI_ge (by omega) (by omega)), po_2 (by omega), B_ift, nI_clamp (by omega), cs k (by omega)]
    rfl
  · rw [if_neg q, if_pos (nI_le (by omega) (by omega))]
    unfold tx_next_42 tx_next_43
    rw [bc_m1]
def S_dg (sg : Nat → Nat) (m k : Nat) : Bool := decide (k < m) && (decide (48 ≤ sg k) && decide (sg k ≤ 57))
theorem tx_isDigit_s (C : C_rd h n m k sg) (hm : m ≤ n) (hn : n ≤ 80) (hk : k ≤ m) (hs : ∀ j, j < n → sg j < 256) : tx_isDigit h = some (B_01 (S_dg sg m k), h) := by
  have e := tx_next_s C hm hn hk
  unfold tx_isDigit
  rw [e, B_bind, e, B_bind, bc_48, bc_57]
  unfold tx_isDigit_22 tx_isDigit_23 S_dg S_nxt
  rw [bc_0, bc_1, B_bz0, B_bz1]
  by_cases q : k < m
  · have hsk := hs k (by omega)
    rw [if_pos q, decide_eq_true q, Bool.true_and]
    by_cases w : 48 ≤ sg k
    · rw [if_neg (nI_nlt w (by omega)), decide_eq_true w, Bool.true_and]
      by_cases z : sg k ≤ 57
      · rw [if_neg (nI_nlt z (by omega)), decide_eq_true z]
        rfl
      · rw [if_pos (nI_lt (by omega) (by omega)), decide_eq_false z]
        rfl
    · rw [if_pos (nI_lt (by omega) (by omega)), decide_eq_false w, Bool.false_and]
      rfl
  · rw [if_neg q, decide_eq_false q, Bool.false_and, if_pos (by decide)]
    rfl
/-- a number of one or two digits: what it is, the place behind it, the fault -/
def S_ck (lo hi v k : Nat) : Nat × Nat × Option Nat := (v, k, if lo ≤ v ∧ v ≤ hi then none else some (k - 1))
def S_nm (sg : Nat → Nat) (m lo hi k : Nat) : Nat × Nat × Option Nat := if S_dg sg m k = true then (if S_dg sg m (k + 1) = true then S_ck lo hi (10 * (sg k - 48) + (sg (k + 1) - 48)) (k + 2) else S_ck lo hi (sg k - 48) (k + 1)) else (0, k, some k)
theorem S_dg_lt (q : S_dg sg m k = true) : k < m ∧ 48 ≤ sg k ∧ sg k ≤ 57 := by
  unfold S_dg at q
  simp only [Bool.and_eq_true, decide_eq_true_eq] at q
  exact q
theorem C_rd.to (C : C_rd h n m k sg) (j : Nat) : C_rd (px_w h 1 2 (nI j)) n m j sg := by
  obtain ⟨c1, c2, c3, cs⟩ := C
  exact ⟨by rw [B_w_at, if_neg (by decide), c1], B_w_same _ _ _ _, by rw [B_w_at, if_neg (by decide), c3], fun j hj => by rw [B_w_cell _ _ _ (by decide)]; exact cs j hj⟩
theorem C_rd.f (C : C_rd h n m k sg) (x : Int32) : C_rd (px_w h 1 4 x) n m k sg := by
  obtain ⟨c1, c2, c3, cs⟩ := C
  exact ⟨by rw [B_w_at, if_neg (by decide), c1], by rw [B_w_at, if_neg (by decide), c2], by rw [B_w_at, if_neg (by decide), c3], fun j hj => by rw [B_w_cell _ _ _ (by decide)]; exact cs j hj⟩
theorem tx_number_54_s {lo hi v : Nat} (C : C_rd h n m k sg) (hk : 1 ≤ k) (hk2 : k < 1000) (hv : v < 1000) (hlo : lo < 2 ^ 31) (hhi : hi < 2 ^ 31) : ∃ h', tx_number_54 (nI lo) (nI hi) (nI v) h = some (if (S_ck lo hi v k).2.2 = none then nI v else -1, h') ∧ C_rd h' n m k sg ∧ (∀ f, (S_ck lo hi v k).2.2 = some f → h' 1 4 = nI f) ∧ B_fr E_tx h h' := by
  have e79 : tx_number_79 h = some (-1, px_w h 1 4 (nI (k - 1))) := by
    unfold tx_number_79 tx_refuseLast
    dsimp only
    rw [C.2.1, bc_1, pk_sub hk, bc_0, B_bz0, B_bind, bc_m1]
  unfold tx_number_54 S_ck
  rw [bc_m1, if_neg (fun w => by rw [bn_eqm (by omega)] at w; exact w), e79]
  by_cases q : lo ≤ v
  · rw [if_neg (nI_nlt q (by omega))]
    by_cases w : v ≤ hi
    · rw [if_pos (nI_le w hhi)]
      have hh : lo ≤ v ∧ v ≤ hi := ⟨q, w⟩
      simp only [if_pos hh, if_true]
      exact ⟨h, rfl, C, (fun f hf => by cases hf), B_fr.refl _ _⟩
    · rw [if_neg (nI_ge (by omega) (by omega))]
      have hh : ¬ (lo ≤ v ∧ v ≤ hi) := fun z => w z.2
      simp only [if_neg hh, reduceCtorEq, if_false]
      exact ⟨_, rfl, C.f _, fun f hf => by cases hf; exact B_w_same _ _ _ _, (B_fr.refl _ h).w rfl⟩
  · rw [if_pos (nI_lt (by omega) (by omega))]
    have hh : ¬ (lo ≤ v ∧ v ≤ hi) := fun z => q z.1
    simp only [if_neg hh, reduceCtorEq, if_false]
    exact ⟨_, rfl, C.f _, fun f hf => by cases hf; exact B_w_same _ _ _ _, (B_fr.refl _ h).w rfl⟩
theorem tx_number_s {lo hi : Nat} (C : C_rd h n m k sg) (hm : m ≤ n) (hn : n ≤ 80) (hk : k ≤ m) (hs : ∀ j, j < n → sg j < 256) (hlo : lo < 2 ^ 31) (hhi : hi < 2 ^ 31) : ∃ h', tx_number (nI 2) (nI lo) (nI hi) h = some (if (S_nm sg m lo hi k).2.2 = none then nI (S_nm sg m lo hi k).1 else -1, h') ∧ C_rd h' n m (S_nm sg m lo hi k).2.1 sg ∧ (∀ f, (S_nm sg m lo hi k).2.2 = some f → h' 1 4 = nI f) ∧ B_fr E_tx h h' := by
  obtain ⟨F, hF⟩ : ∃ F, px_F = F + 3 := ⟨px_F - 3, by have : 100 < px_F := px_F_lt (by omega); omega⟩
  have e1 := tx_isDigit_s C hm hn hk hs
  have n1 := tx_next_s C hm hn hk
  unfold tx_number S_nm
  rw [hF, bc_m1, bc_0]
  have s1 : tx_number_6 (F + 3) (nI 2) (nI lo) (nI hi) (-1) 0 h = if S_dg sg m k = true then tx_number_6 (F + 2) (nI 2) (nI lo) (nI hi) (nI (sg k - 48)) (nI 1) (px_w h 1 2 (nI (k + 1))) else tx_number_54 (nI lo) (nI hi) (-1) h := by
    show (if nI 2 ≤ 0 then _ else px_bind (tx_isDigit h) _) = _
    rw [if_neg (by decide), e1, B_bind]
    cases q : S_dg sg m k with
    | false => rw [if_pos (show B_01 false = 0 from rfl), if_neg (by decide)]
    | true =>
      obtain ⟨w1, w2, w3⟩ := S_dg_lt q
      rw [if_neg (show ¬ B_01 true = 0 by decide), n1, B_bind, if_pos rfl]
      have : S_nxt sg m k = nI (sg k) := if_pos w1
      rw [this]
      dsimp only
      rw [C.2.1, bc_1, nI_add, bc_48, bc_10, bc_0, show px_max (0 : Int32) (-1) * nI 10 = 0 by decide, Int32.zero_add, pk_sub w2, Int32.zero_add]
  rw [s1]
  cases q : S_dg sg m k with
  | false =>
    simp only [Bool.false_eq_true, if_false]
    unfold tx_number_54 tx_refuse
    dsimp only
    rw [bc_m1, if_pos rfl, C.2.1, bc_0, B_bz0, B_bind, if_neg (by simp)]
    exact ⟨_, rfl, C.f _, fun f hf => by cases hf; exact B_w_same _ _ _ _, (B_fr.refl _ h).w rfl⟩
  | true =>
    obtain ⟨w1, w2, w3⟩ := S_dg_lt q
    simp only [if_true]
    have C2 := C.to (k + 1)
    have F2 : B_fr E_tx h (px_w h 1 2 (nI (k + 1))) := (B_fr.refl _ h).w rfl
    have e2 := tx_isDigit_s C2 hm hn (by omega) hs
    have n2 := tx_next_s C2 hm hn (by omega)
    have s2 : tx_number_6 (F + 2) (nI 2) (nI lo) (nI hi) (nI (sg k - 48)) (nI 1) (px_w h 1 2 (nI (k + 1))) = if S_dg sg m (k + 1) = true then tx_number_54 (nI lo) (nI hi) (nI (10 * (sg k - 48) + (sg (k + 1) - 48))) (px_w (px_w h 1 2 (nI (k + 1))) 1 2 (nI (k + 2))) else tx_number_54 (nI lo) (nI hi) (nI (sg k - 48)) (px_w h 1 2 (nI (k + 1))) := by
      show (if nI 2 ≤ nI 1 then _ else px_bind (tx_isDigit _) _) = _
      rw [if_neg (by decide), e2, B_bind]
      cases q2 : S_dg sg m (k + 1) with
      | false => rw [if_pos (show B_01 false = 0 from rfl), if_neg (by decide)]
      | true =>
        obtain ⟨x1, x2, x3⟩ := S_dg_lt q2
        rw [if_neg (show ¬ B_01 true = 0 by decide), n2, B_bind, if_pos rfl]
        have : S_nxt sg m (k + 1) = nI (sg (k + 1)) := if_pos x1
        rw [this]
        dsimp only
        rw [C2.2.1, bc_1, nI_add, bc_48, bc_10, bc_0, nI_add]
        have em : px_max 0 (nI (sg k - 48)) = nI (sg k - 48) := by
          unfold px_max
          split
          · rfl
          · rename_i z
            rw [bn_0lt (by omega)] at z
            rw [show sg k - 48 = 0 by omega, nI_0]
        rw [em, pk_mul, nI_add, pk_sub (by omega)]
        show (if nI 2 ≤ nI 2 then _ else _) = _
        rw [if_pos (by decide)]
        congr 2
        omega
    rw [s2]
    cases q2 : S_dg sg m (k + 1) with
    | false =>
      simp only [Bool.false_eq_true, if_false]
      obtain ⟨h', a1, a2, a3, a4⟩ := tx_number_54_s (lo := lo) (hi := hi) (v := sg k - 48) C2 (by omega) (by omega) (by omega) hlo hhi
      exact ⟨h', a1, a2, a3, F2.trans a4⟩
    | true =>
      simp only [if_true]
      obtain ⟨h', a1, a2, a3, a4⟩ := tx_number_54_s (lo := lo) (hi := hi) (v := 10 * (sg k - 48) + (sg (k + 1) - 48)) (C2.to (k + 2)) (by omega) (by have := S_dg_lt q2; omega) (by have := S_dg_lt q2; omega) hlo hhi
      exact ⟨h', a1, a2, a3, (F2.w rfl).trans a4⟩
/-- the reference's reader -/
def M_rd (h : pH) (n mo k : Nat) (sg : Nat → Nat) (f : Option Nat) : Prop := h 51 15 = nI 58 ∧ h 51 16 = nI n ∧ h 51 17 = nI mo ∧ h 51 18 = nI k ∧ h 51 19 = S_enc f ∧ ∀ j, j < n → h 58 j = B_byte (sg j)
def E_mx : Nat → Nat → Bool := fun a k => match a with
  | 51 => [18, 19].contains k
  | _ => false
section MREAD
variable {mo : Nat} {f : Option Nat}
theorem M_rd.to (M : M_rd h n mo k sg f) (j : Nat) : M_rd (px_w h 51 18 (nI j)) n mo j sg f := by
  obtain ⟨c1, c2, c3, c4, c5, cs⟩ := M
  exact ⟨by rw [B_w_at, if_neg (by decide), c1], by rw [B_w_at, if_neg (by decide), c2], by rw [B_w_at, if_neg (by decide), c3], B_w_same _ _ _ _, by rw [B_w_at, if_neg (by decide), c5], fun j hj => by rw [B_w_cell _ _ _ (by decide)]; exact cs j hj⟩
theorem M_rd.fl (M : M_rd h n mo k sg f) (x : Nat) : M_rd (px_w h 51 19 (nI x)) n mo k sg (some x) := by
  obtain ⟨c1, c2, c3, c4, c5, cs⟩ := M
  exact ⟨by rw [B_w_at, if_neg (by decide), c1], by rw [B_w_at, if_neg (by decide), c2], by rw [B_w_at, if_neg (by decide), c3], by rw [B_w_at, if_neg (by decide), c4], B_w_same _ _ _ _, fun j hj => by rw [B_w_cell _ _ _ (by decide)]; exact cs j hj⟩
theorem mo_fine_s (M : M_rd h n mo k sg f) (hf : ∀ x, f = some x → x < 2 ^ 31) : mo_fine h = some (if f = none then nI 1 else 0, h) := by
  unfold mo_fine mo_fine_13
  rw [M.2.2.2.2.1, bc_m1, bc_1, bc_0, B_bz0, B_bz1]
  have e := S_enc_m hf
  by_cases q : f = none
  · rw [if_pos q, if_pos (by rw [q]; rfl)]
  · rw [if_neg q, if_neg (fun w => q (by rw [e] at w; exact w))]
theorem mo_fine_0 (M : M_rd h n mo k sg none) : mo_fine h = some (nI 1, h) := mo_fine_s M (fun x e => by cases e)
theorem mo_fine_1 {x : Nat} (hx : x < 2 ^ 31) (M : M_rd h n mo k sg (some x)) : mo_fine h = some (0, h) := by
  rw [mo_fine_s M (fun y e => by cases e; exact hx), if_neg (by simp)]
theorem mo_fault_0 (M : M_rd h n mo k sg none) (x : Int32) : mo_fault x h = some (0, px_w h 51 19 x) := by
  unfold mo_fault mo_fault_12
  rw [mo_fine_0 M, B_bind, if_neg (by decide)]
theorem mo_fault_1 {y : Nat} (hy : y < 2 ^ 31) (M : M_rd h n mo k sg (some y)) (x : Int32) : mo_fault x h = some (0, h) := by
  unfold mo_fault mo_fault_12
  rw [mo_fine_1 hy M, B_bind, if_pos rfl]
theorem B_byte_and {c : Nat} (hc : c < 256) : B_byte c &&& nI 255 = nI c := by
  have hd : ∀ c, c < 256 → B_byte c &&& nI 255 = nI c := by decide +kernel
  exact hd c hc
theorem mo_here_s (M : M_rd h n mo k sg f) (hn : n ≤ 80) (hmo : mo < 2 ^ 31) (hk : k < 1000) (hs : ∀ j, j < n → sg j < 256) : mo_here h = some (S_nxt sg (min n mo) k, h) := by
  obtain ⟨c1, c2, c3, c4, c5, cs⟩ := M
  unfold mo_here mo_here_38 mo_here_39 S_nxt
  rw [c2, c3, c4, c1, bc_m1, bc_255]
  by_cases q : k < n
  · rw [if_neg (nI_ge q (by omega))]
    by_cases w : k < mo
    · rw [if_neg (nI_ge w (by omega)), if_pos (by omega), nI_clamp (show 58 < 2 ^ 31 by decide), show (decide (0 ≤ nI 58) && Nat.blt 58 px_N) = true by decide, B_ift, po_58 (by omega), Bool.true_or, B_ift, nI_clamp (by omega), cs k q]
      exact congrArg (fun z => some (z, h)) (B_byte_and (hs k q))
    · rw [if_pos (nI_le (by omega) (by omega)), if_neg (by omega)]
  · rw [if_pos (nI_le (by omega) (by omega)), if_neg (by omega)]
theorem B_byte_lo {c : Nat} (hc : c < 128) : B_byte c = nI c := if_pos hc
theorem mo_in_dg (M : M_rd h n mo k sg f) (hs : ∀ j, j < n → sg j < 256) : mo_in (S_nxt sg (min n mo) k) (nI 48) (nI 57) h = some (B_01 (S_dg sg (min n mo) k), h) := by
  have t48 : (nI 48).toInt = 48 := rfl
  have t57 : (nI 57).toInt = 57 := rfl
  rw [mo_in_eq, t48, t57]
  unfold S_nxt S_dg
  by_cases q : k < min n mo
  · have := hs k (by omega)
    rw [if_pos q, decide_eq_true q, Bool.true_and, nI_toInt (by omega)]
    congr 3
    by_cases w : 48 ≤ sg k
    · by_cases z : sg k ≤ 57
      · rw [decide_eq_true w, decide_eq_true z, decide_eq_true (by omega)]
        rfl
      · rw [decide_eq_false z, decide_eq_false (by omega), Bool.and_false]
    · rw [decide_eq_false w, decide_eq_false (by omega), Bool.false_and]
  · rw [if_neg q, decide_eq_false q, Bool.false_and, show decide ((48 : Int) ≤ (-1 : Int32).toInt ∧ (-1 : Int32).toInt ≤ 57) = false by decide]
theorem mo_digit_s (M : M_rd h n mo k sg none) (hn : n ≤ 80) (hmo : mo < 2 ^ 31) (hk : k < 1000) (hs : ∀ j, j < n → sg j < 256) : mo_digit 0 (nI 9) h = if S_dg sg (min n mo) k = true then some (nI (sg k - 48), px_w h 51 18 (nI (k + 1))) else some (0, px_w h 51 19 (nI k)) := by
  unfold mo_digit
  rw [mo_fine_0 M, B_bind, if_neg (by decide), mo_here_s M hn hmo hk hs, B_bind, bc_48, Int32.add_zero, nI_add, mo_in_dg M hs, B_bind]
  cases q : S_dg sg (min n mo) k with
  | false => rw [if_pos (show B_01 false = 0 from rfl), M.2.2.2.1, mo_fault_0 M, B_bind, bc_0, if_neg (by decide)]
  | true =>
    obtain ⟨w1, w2, w3⟩ := S_dg_lt q
    have M2 := M.to (k + 1)
    rw [if_neg (show ¬ B_01 true = 0 by decide), if_pos rfl, M.2.2.2.1, bc_1, nI_add]
    dsimp only
    rw [M2.1, M2.2.2.2.1, pk_sub (by omega), Nat.add_sub_cancel, nI_clamp (show 58 < 2 ^ 31 by decide), show (decide (0 ≤ nI 58) && Nat.blt 58 px_N) = true by decide, B_ift, po_58 (by omega), Bool.true_or, B_ift, nI_clamp (by omega), M2.2.2.2.2.2 k (by omega), B_byte_lo (by omega), pk_sub w2]
theorem mo_number_s {lo hi : Nat} (M : M_rd h n mo k sg none) (hn : n ≤ 80) (hmo : mo < 2 ^ 31) (hk : k < 100) (hs : ∀ j, j < n → sg j < 256) (hlo : lo < 2 ^ 31) (hhi : hi < 2 ^ 31) : ∃ z h', mo_number_ (nI lo) (nI hi) h = some (z, h') ∧ ((S_nm sg (min n mo) lo hi k).2.2 = none → z = nI (S_nm sg (min n mo) lo hi k).1) ∧ M_rd h' n mo (S_nm sg (min n mo) lo hi k).2.1 sg (S_nm sg (min n mo) lo hi k).2.2 ∧ B_fr E_mx h h' := by
  obtain ⟨F, hF⟩ : ∃ F, px_F = F + 3 := ⟨px_F - 3, by have : 100 < px_F := px_F_lt (by omega); omega⟩
  -- the check behind the digits
  have hck : ∀ (v k' : Nat) (h' : pH), v < 1000 → 1 ≤ k' → k' < 1000 → M_rd h' n mo k' sg none → mo_number (nI 2) h = some (nI v, h') → ∃ z h2, mo_number_ (nI lo) (nI hi) h = some (z, h2) ∧ ((S_ck lo hi v k').2.2 = none → z = nI (S_ck lo hi v k').1) ∧ M_rd h2 n mo (S_ck lo hi v k').2.1 sg (S_ck lo hi v k').2.2 ∧ B_fr E_mx h' h2 := by
    intro v k' h' hv hk1 hk2 M' e
    have tv : (nI v).toInt = (v : Int) := nI_toInt (by omega)
    have tl : (nI lo).toInt = (lo : Int) := nI_toInt hlo
    have th : (nI hi).toInt = (hi : Int) := nI_toInt hhi
    unfold mo_number_ mo_number__32 S_ck
    rw [bc_2, e, B_bind, mo_fine_0 M', B_bind, if_neg (by decide), mo_in_eq, tv, tl, th, B_bind]
    by_cases q : lo ≤ v ∧ v ≤ hi
    · rw [decide_eq_true (by omega), if_neg (by decide)]
      simp only [if_pos q]
      exact ⟨_, _, rfl, (fun _ => rfl), M', B_fr.refl _ _⟩
    · rw [decide_eq_false (by omega), if_pos (show B_01 false = 0 from rfl), M'.2.2.2.1, bc_1, pk_sub hk1, mo_fault_0 M', B_bind]
      simp only [if_neg q]
      exact ⟨_, _, rfl, (fun w => by cases w), M'.fl (k' - 1), (B_fr.refl _ _).w rfl⟩
  have d1 := mo_digit_s M hn hmo (by omega) hs
  have hnum : mo_number (nI 2) h = px_bind (mo_digit 0 (nI 9) h) fun z1 h2 => mo_number_10 (F + 3) (nI 2) z1 (nI 1) h2 := by
    unfold mo_number
    rw [bc_0, bc_9, bc_1, hF]
  unfold S_nm
  cases q : S_dg sg (min n mo) k with
  | false =>
    rw [q, if_neg (by decide)] at d1
    have M2 := M.fl k
    simp only [Bool.false_eq_true, if_false]
    refine ⟨0, px_w h 51 19 (nI k), ?_, (fun w => by cases w), M2, (B_fr.refl _ _).w rfl⟩
    have hk31 : k < 2 ^ 31 := by omega
    unfold mo_number_ mo_number__32
    rw [bc_2, hnum, d1, B_bind]
    have : mo_number_10 (F + 3) (nI 2) 0 (nI 1) (px_w h 51 19 (nI k)) = some (0, px_w h 51 19 (nI k)) := by
      show (if nI 2 ≤ nI 1 then _ else px_bind (mo_fine _) _) = _
      rw [if_neg (by decide), mo_fine_1 hk31 M2, B_bind, if_pos rfl]
      rfl
    rw [this, B_bind, mo_fine_1 hk31 M2, B_bind, if_pos rfl]
  | true =>
    obtain ⟨w1, w2, w3⟩ := S_dg_lt q
    rw [q, if_pos rfl] at d1
    have M2 := M.to (k + 1)
    have d2 := mo_digit_s M2 hn hmo (by omega) hs
    have here2 := mo_here_s M2 hn hmo (by omega) hs
    simp only [if_true]
    cases q2 : S_dg sg (min n mo) (k + 1) with
    | false =>
      simp only [Bool.false_eq_true, if_false]
      obtain ⟨z, h2, a1, a2, a3, a4⟩ := hck (sg k - 48) (k + 1) _ (by omega) (by omega) (by omega) M2 (by
        rw [hnum, d1, B_bind]
        show (if nI 2 ≤ nI 1 then _ else px_bind (mo_fine _) _) = _
        rw [if_neg (by decide), mo_fine_0 M2, B_bind, if_neg (by decide), here2, B_bind, bc_48, bc_57, mo_in_dg M2 hs, q2, B_bind, if_pos (show B_01 false = 0 from rfl)]
        rfl)
      exact ⟨z, h2, a1, a2, a3, B_fr.trans ((B_fr.refl _ h).w rfl) a4⟩
    | true =>
      obtain ⟨x1, x2, x3⟩ := S_dg_lt q2
      rw [q2, if_pos rfl] at d2
      simp only [if_true]
      obtain ⟨z, h2, a1, a2, a3, a4⟩ := hck (10 * (sg k - 48) + (sg (k + 1) - 48)) (k + 2) _ (by omega) (by omega) (by omega) (M2.to (k + 2)) (by
        rw [hnum, d1, B_bind]
        show (if nI 2 ≤ nI 1 then _ else px_bind (mo_fine _) _) = _
        rw [if_neg (by decide), mo_fine_0 M2, B_bind, if_neg (by decide), here2, B_bind, bc_48, bc_57, mo_in_dg M2 hs, q2, B_bind, if_neg (show ¬ B_01 true = 0 by decide), bc_0, bc_9, d2, B_bind, bc_10, bc_1]
        show (if nI 2 ≤ nI 1 + nI 1 then _ else _) = _
        rw [nI_add, if_pos (by decide), pk_mul, nI_add]
        rfl)
      exact ⟨z, h2, a1, a2, a3, B_fr.trans (((B_fr.refl _ h).w rfl).w rfl) a4⟩
end MREAD
end READ
