/-! Layer B: rule: the other side's reader, over either row -/
section MR
variable {h : pH} {r m k : Nat} {sg : Nat → Nat}
def M_r (h : pH) (r m k : Nat) (sg : Nat → Nat) (f : Option Nat) : Prop := (r = 58 ∨ r = 63) ∧ h 51 15 = nI r ∧ (∃ n mo, h 51 16 = nI n ∧ h 51 17 = nI mo ∧ m = min n mo ∧ n < 2 ^ 31 ∧ mo < 2 ^ 31) ∧ h 51 18 = nI k ∧ h 51 19 = S_enc f ∧ ∀ j, j < m → h r j = B_byte (sg j)
theorem M_r.to {f : Option Nat} (M : M_r h r m k sg f) (j : Nat) : M_r (px_w h 51 18 (nI j)) r m j sg f := by
  obtain ⟨c0, c1, ⟨n, mo, c2, c3, c4, c5, c6⟩, c7, c8, c9⟩ := M
  refine ⟨c0, by rw [B_w_at, if_neg (by decide), c1], ⟨n, mo, by rw [B_w_at, if_neg (by decide), c2], by rw [B_w_at, if_neg (by decide), c3], c4, c5, c6⟩, B_w_same _ _ _ _, by rw [B_w_at, if_neg (by decide), c8], fun j hj => ?_⟩
  rw [B_w_cell _ _ _ (by rcases c0 with rfl | rfl <;> decide)]
  exact c9 j hj
theorem M_r.fl {f : Option Nat} (M : M_r h r m k sg f) (x : Nat) : M_r (px_w h 51 19 (nI x)) r m k sg (some x) := by
  obtain ⟨c0, c1, ⟨n, mo, c2, c3, c4, c5, c6⟩, c7, c8, c9⟩ := M
  refine ⟨c0, by rw [B_w_at, if_neg (by decide), c1], ⟨n, mo, by rw [B_w_at, if_neg (by decide), c2], by rw [B_w_at, if_neg (by decide), c3], c4, c5, c6⟩, by rw [B_w_at, if_neg (by decide), c7], B_w_same _ _ _ _, fun j hj => ?_⟩
  rw [B_w_cell _ _ _ (by rcases c0 with rfl | rfl <;> decide)]
  exact c9 j hj
theorem mr_fine0 (M : M_r h r m k sg none) : mo_fine h = some (nI 1, h) := by
  unfold mo_fine mo_fine_13
  rw [M.2.2.2.2.1, bc_m1, bc_1, B_bz1]
  exact if_pos rfl
theorem mr_fine1 {x : Nat} (hx : x < 2 ^ 31) (M : M_r h r m k sg (some x)) : mo_fine h = some (0, h) := by
  unfold mo_fine mo_fine_13
  rw [M.2.2.2.2.1, bc_m1, bc_0, B_bz0]
  exact if_neg (fun e => by
    change nI x = -1 at e
    rw [bn_eqm hx] at e
    exact e)
theorem mr_fault0 (M : M_r h r m k sg none) (x : Int32) : mo_fault x h = some (0, px_w h 51 19 x) := by
  unfold mo_fault mo_fault_12
  rw [mr_fine0 M, B_bind, if_neg (by decide)]
theorem mr_fault1 {y : Nat} (hy : y < 2 ^ 31) (M : M_r h r m k sg (some y)) (x : Int32) : mo_fault x h = some (0, h) := by
  unfold mo_fault mo_fault_12
  rw [mr_fine1 hy M, B_bind, if_pos rfl]
theorem mr_row (c0 : r = 58 ∨ r = 63) {j : Nat} (hj : j < 40) : (decide (0 ≤ nI r) && Nat.blt r px_N) = true ∧ (px_ok 1 r (nI j) || px_ok 3 r (nI j)) = true ∧ r < 2 ^ 31 := by
  rcases c0 with rfl | rfl
  · exact ⟨by decide, by rw [po_58 (by omega), Bool.true_or], by decide⟩
  · exact ⟨by decide, by rw [po_63 (by omega), Bool.true_or], by decide⟩
theorem mr_here (hm : m ≤ 40) (hs : ∀ j, j < m → sg j < 256) {f : Option Nat} (hk : k < 1000) (M : M_r h r m k sg f) : mo_here h = some (S_nxt sg m k, h) := by
  obtain ⟨c0, c1, ⟨n, mo, c2, c3, c4, c5, c6⟩, c7, c8, c9⟩ := M
  unfold mo_here mo_here_38 mo_here_39 S_nxt
  rw [c2, c3, c7, c1, bc_m1, bc_255]
  by_cases q : k < m
  · obtain ⟨r1, r2, r3⟩ := mr_row c0 (show k < 40 by omega)
    rw [if_neg (nI_ge (by omega) (by omega)), if_neg (nI_ge (by omega) (by omega)), if_pos q, nI_clamp r3, r1, B_ift, r2, B_ift, nI_clamp (by omega), c9 k q]
    exact congrArg (fun z => some (z, h)) (B_byte_and (hs k q))
  · rw [if_neg q]
    by_cases w : n ≤ k
    · rw [if_pos (nI_le w (by omega))]
    · rw [if_neg (nI_ge (by omega) (by omega)), if_pos (nI_le (by omega) (by omega))]
theorem mr_nxt {z : Nat} (hs : ∀ j, j < m → sg j < 256) (hz : z < 256) : (S_nxt sg m k = nI z) = (k < m ∧ sg k = z) := S_nxt_eq (n := m) hs (Nat.le_refl _) hz
theorem mr_passes0 (hm : m ≤ 40) (hs : ∀ j, j < m → sg j < 256) (hk : k < 1000) (M : M_r h r m k sg none) {z : Nat} (hz : z < 256) : mo_passes (nI z) h = if k < m ∧ sg k = z then some (nI 1, px_w h 51 18 (nI (k + 1))) else some (0, h) := by
  unfold mo_passes mo_passes_15
  rw [mr_fine0 M, B_bind, if_neg (by decide), mr_here hm hs hk M, B_bind, bc_1, bc_0, B_bz0, B_bz1]
  try dsimp only
  rw [M.2.2.2.1, nI_add]
  simp only [mr_nxt hs hz]
theorem mr_passes1 {x : Nat} (hx : x < 2 ^ 31) (M : M_r h r m k sg (some x)) (z : Int32) : mo_passes z h = some (0, h) := by
  unfold mo_passes mo_passes_15
  rw [mr_fine1 hx M, B_bind, if_pos rfl, bc_0, B_bz0]
theorem mr_need0 (hm : m ≤ 40) (hs : ∀ j, j < m → sg j < 256) (hk : k < 1000) (M : M_r h r m k sg none) {z : Nat} (hz : z < 256) : mo_need (nI z) h = if k < m ∧ sg k = z then some (0, px_w h 51 18 (nI (k + 1))) else some (0, px_w h 51 19 (nI k)) := by
  unfold mo_need mo_need_16
  rw [mr_passes0 hm hs hk M hz]
  by_cases q : k < m ∧ sg k = z
  · rw [if_pos q, if_pos q, B_bind, if_neg (by decide)]
  · rw [if_neg q, if_neg q, B_bind, if_pos rfl, M.2.2.2.1, mr_fault0 M, B_bind]
theorem mr_need1 {x : Nat} (hx : x < 2 ^ 31) (M : M_r h r m k sg (some x)) (z : Int32) : mo_need z h = some (0, h) := by
  unfold mo_need mo_need_16
  rw [mr_passes1 hx M, B_bind, if_pos rfl, mr_fault1 hx M, B_bind]
theorem mr_in (hs : ∀ j, j < m → sg j < 256) : mo_in (S_nxt sg m k) (nI 48) (nI 57) h = some (B_01 (S_dg sg m k), h) := by
  have t48 : (nI 48).toInt = 48 := rfl
  have t57 : (nI 57).toInt = 57 := rfl
  rw [mo_in_eq, t48, t57]
  unfold S_nxt S_dg
  by_cases q : k < m
  · have := hs k q
    rw [if_pos q, decide_eq_true q, Bool.true_and, nI_toInt (by omega)]
    congr 3
    by_cases w : 48 ≤ sg k
    · by_cases z : sg k ≤ 57
      · rw [decide_eq_true w, decide_eq_true z, decide_eq_true (by omega)]
        rfl
      · rw [decide_eq_false z, decide_eq_false (by omega), Bool.and_false]
    · rw [decide_eq_false w, decide_eq_false (by omega), Bool.false_and]
  · rw [if_neg q, decide_eq_false q, Bool.false_and, show decide ((48 : Int) ≤ (-1 : Int32).toInt ∧ (-1 : Int32).toInt ≤ 57) = false by decide]
theorem mr_digit (hm : m ≤ 40) (hs : ∀ j, j < m → sg j < 256) (hk : k < 1000) (M : M_r h r m k sg none) (hd : S_dg sg m k = true) : mo_digit 0 (nI 9) h = some (nI (sg k - 48), px_w h 51 18 (nI (k + 1))) := by
  obtain ⟨w1, w2, w3⟩ := S_dg_lt hd
  have M2 := M.to (k + 1)
  obtain ⟨r1, r2, r3⟩ := mr_row M.1 (show k < 40 by omega)
  unfold mo_digit
  rw [mr_fine0 M, B_bind, if_neg (by decide), mr_here hm hs hk M, B_bind, bc_48, Int32.add_zero, nI_add, mr_in hs, B_bind, hd, if_neg (show ¬ B_01 true = 0 by decide), M.2.2.2.1, bc_1, nI_add]
  dsimp only
  rw [M2.2.1, M2.2.2.2.1, pk_sub (by omega), Nat.add_sub_cancel, nI_clamp r3, r1, B_ift, r2, B_ift, nI_clamp (by omega), M2.2.2.2.2.2 k (by omega), B_byte_lo (by omega), pk_sub w2]
theorem mr_number (hm : m ≤ 40) (hs : ∀ j, j < m → sg j < 256) (M : M_r h r m k sg none) (hd : S_dg sg m k = true) : ∃ h', mo_number (nI 3) h = some (nI (u_num sg m k).1, h') ∧ M_r h' r m (u_num sg m k).2 sg none ∧ k < (u_num sg m k).2 ∧ (u_num sg m k).2 ≤ m ∧ (u_num sg m k).1 ≤ 999 ∧ B_fr E_mx h h' := by
  obtain ⟨F, hF⟩ : ∃ F, px_F = F + 3 := ⟨px_F - 3, by have : 100 < px_F := px_F_lt (by omega); omega⟩
  obtain ⟨w1, w2, w3⟩ := S_dg_lt hd
  have hstep : ∀ (F kk v k : Nat) (h : pH), M_r h r m k sg none → k ≤ m → kk < 3 → v < 100 → mo_number_10 (F + 1) (nI 3) (nI v) (nI kk) h = if S_dg sg m k = true then mo_number_10 F (nI 3) (nI (10 * v + (sg k - 48))) (nI (kk + 1)) (px_w h 51 18 (nI (k + 1))) else some (nI v, h) := by
    intro F kk v k h M hk hkk hv
    show (if nI 3 ≤ nI kk then _ else px_bind (mo_fine _) _) = _
    rw [if_neg (nI_ge (by omega) (by omega)), mr_fine0 M, B_bind, if_neg (by decide), mr_here hm hs (by omega) M, B_bind, bc_48, bc_57, mr_in hs, B_bind]
    cases q : S_dg sg m k with
    | false =>
      rw [if_pos (show B_01 false = 0 from rfl), if_neg (by decide)]
      rfl
    | true =>
      rw [if_neg (show ¬ B_01 true = 0 by decide), if_pos rfl, bc_0, bc_9, mr_digit hm hs (by omega) M q, B_bind, bc_10, bc_1]
      dsimp only
      rw [pk_mul, nI_add, nI_add]
  have M2 := M.to (k + 1)
  have F2 : B_fr E_mx h (px_w h 51 18 (nI (k + 1))) := (B_fr.refl _ h).w rfl
  have s1 : mo_number (nI 3) h = mo_number_10 (F + 3) (nI 3) (nI (sg k - 48)) (nI 1) (px_w h 51 18 (nI (k + 1))) := by
    unfold mo_number
    rw [bc_0, bc_9, bc_1, hF, mr_digit hm hs (by omega) M hd, B_bind]
  rw [s1, hstep (F + 2) 1 _ (k + 1) _ M2 (by omega) (by omega) (by omega)]
  unfold u_num
  cases q2 : S_dg sg m (k + 1) with
  | false =>
    simp only [Bool.false_eq_true, if_false]
    exact ⟨_, rfl, M2, by omega, by omega, by omega, F2⟩
  | true =>
    obtain ⟨x1, x2, x3⟩ := S_dg_lt q2
    simp only [if_true]
    have M3 := M2.to (k + 2)
    rw [hstep (F + 1) (1 + 1) _ (k + 2) _ M3 (by omega) (by omega) (by omega)]
    cases q3 : S_dg sg m (k + 2) with
    | false =>
      simp only [Bool.false_eq_true, if_false]
      exact ⟨_, rfl, M3, by omega, by omega, by omega, F2.w rfl⟩
    | true =>
      obtain ⟨y1, y2, y3⟩ := S_dg_lt q3
      simp only [if_true]
      refine ⟨_, ?_, M3.to (k + 3), by omega, by omega, by omega, (F2.w rfl).w rfl⟩
      show (if nI 3 ≤ nI 3 then _ else _) = _
      rw [if_pos (by decide)]
      rfl
/-- the letters -/
def u_ix (c : Nat) : Nat := if c = 112 then 0 else if c = 116 then 1 else if c = 119 then 2 else if c = 121 then 3 else if c = 110 then 4 else if c = 105 then 5 else 6
theorem u_ix_lt (c : Nat) : u_ix c < 7 := by
  unfold u_ix
  repeat' split
  all_goals omega
theorem mo_letterOf_n {c : Nat} (hc : c < 1000) : mo_letterOf (nI c) h = some (if u_let c = true then nI (u_ix c) else -1, h) := by
  unfold mo_letterOf mo_letterOf_72
  rw [bc_112, bc_116, bc_119, bc_121, bc_110, bc_105, bc_111, bc_0, bc_1, bc_2, bc_3, bc_4, bc_5, bc_6, bc_m1]
  by_cases q1 : c = 112
  · subst q1
    rfl
  by_cases q2 : c = 116
  · subst q2
    rfl
  by_cases q3 : c = 119
  · subst q3
    rfl
  by_cases q4 : c = 121
  · subst q4
    rfl
  by_cases q5 : c = 110
  · subst q5
    rfl
  by_cases q6 : c = 105
  · subst q6
    rfl
  by_cases q7 : c = 111
  · subst q7
    rfl
  have hl : u_let c = false := by
    cases z : u_let c with
    | false => rfl
    | true =>
      unfold u_let at z
      simp at z
      omega
  have hne : ∀ j, j < 1000 → ¬ c = j → ¬ nI c = nI j := fun j hj w e => w ((nI_eq (by omega) (by omega)).mp e)
  rw [hl, if_neg (hne 112 (by omega) q1), if_neg (hne 116 (by omega) q2), if_neg (hne 119 (by omega) q3), if_neg (hne 121 (by omega) q4), if_neg (hne 110 (by omega) q5), if_neg (hne 105 (by omega) q6), if_neg (hne 111 (by omega) q7), if_neg (by decide)]
theorem mo_letterOf_x (hs : ∀ j, j < m → sg j < 256) : mo_letterOf (S_nxt sg m k) h = some (if u_let (u_nx sg m k) = true then nI (u_ix (u_nx sg m k)) else -1, h) := by
  unfold S_nxt u_nx
  by_cases q : k < m
  · rw [if_pos q, if_pos q, mo_letterOf_n (by have := hs k q; omega)]
  · rw [if_neg q, if_neg q]
    unfold mo_letterOf mo_letterOf_72
    rw [bc_112, bc_116, bc_119, bc_121, bc_110, bc_105, bc_111, bc_m1]
    rfl
/-- what a letter is worth -/
def e_h (h : pH) : Nat → Int32 := fun c => if h 51 27 = 0 then 0 else h 64 (u_ix c)
theorem e_h_fr {h' : pH} (F : B_fr E_mx h h') : e_h h' = e_h h := by
  unfold e_h
  rw [F 51 27 rfl, F.row 64 (fun _ => rfl)]
end MR
