/-! Layer B: house: any line -/
section ALINE
variable {h : pH} {n m k mo N N2 q : Nat} {sg : Nat → Nat}
theorem hs_readLine_s (hN : N ≤ 6) (hN2 : N2 ≤ 10) (e12 : h 3 12 = nI N) (e13 : h 3 13 = nI N2) (C : C_rd h n m k sg) (hm : m ≤ n) (hn : n ≤ 80) (hk : k ≤ m) (hs : ∀ j, j < n → sg j < 256) : hs_readLine h = if N < 6 ∧ k < m ∧ sg k = 112 then px_bind (hs_readPerson (px_w h 1 2 (nI (k + 1)))) (fun z3 h4 => px_bz z3 h4) else if N2 < 10 ∧ k < m ∧ sg k = 116 then px_bind (hs_readThing (px_w h 1 2 (nI (k + 1)))) (fun z3 h4 => px_bz z3 h4) else some (0, px_w h 1 4 (nI k)) := by
  have e48 : hs_readLine_48 h = some (0, px_w h 1 4 (nI k)) := by
    unfold hs_readLine_48 tx_refuse
    dsimp only
    rw [C.2.1, bc_0, B_bz0, B_bind, B_bz0]
  have e24 : hs_readLine_24 h = if N2 < 10 ∧ k < m ∧ sg k = 116 then px_bind (hs_readThing (px_w h 1 2 (nI (k + 1)))) (fun z3 h4 => px_bz z3 h4) else some (0, px_w h 1 4 (nI k)) := by
    unfold hs_readLine_24
    rw [e13, bc_10, bc_116, e48, tx_meet_m C hm hn hk hs (z := 116) (by omega)]
    by_cases w : N2 < 10
    · rw [if_neg (nI_ge w (by omega))]
      by_cases z : k < m ∧ sg k = 116
      · rw [if_pos z, B_bind, if_neg (by decide), if_pos ⟨w, z⟩]
      · rw [if_neg z, B_bind, if_pos rfl, if_neg (fun e => z e.2), e48]
    · rw [if_pos (nI_le (by omega) (by omega)), if_neg (fun e => w e.1)]
  unfold hs_readLine
  rw [e12, bc_6, bc_112, e24, tx_meet_m C hm hn hk hs (z := 112) (by omega)]
  by_cases w : N < 6
  · rw [if_neg (nI_ge w (by omega))]
    by_cases z : k < m ∧ sg k = 112
    · rw [if_pos z, B_bind, if_neg (by decide), if_pos ⟨w, z⟩]
    · rw [if_neg z, B_bind, if_pos rfl, if_neg (fun e => z e.2), e24]
  · have w2 : ¬ (N < 6 ∧ k < m ∧ sg k = 112) := fun e => w e.1
    rw [if_pos (nI_le (by omega) (by omega)), if_neg w2]
theorem mo_readLine_no {P q0 T : Nat} (hc : P + q0 ≤ 6) (eP : h 51 4 = nI P) (e23 : h 51 23 = nI q0) (eT : h 51 6 = nI T) (hT : T + q ≤ 10) (e24 : h 51 24 = nI q) (M : M_rd h n mo k sg none) (hn : n ≤ 80) (hmo : mo < 2 ^ 31) (hk : k ≤ min n mo) (hs : ∀ j, j < n → sg j < 256) (h1 : ¬ (P + q0 < 6 ∧ k < min n mo ∧ sg k = 112)) (h2 : ¬ (T + q < 10 ∧ k < min n mo ∧ sg k = 116)) : mo_readLine h = some (0, px_w h 51 19 (nI k)) := by
  have hh := mo_here_s M hn hmo (by omega) hs
  have hc1 := S_nxt_eq (m := min n mo) (k := k) hs (Nat.min_le_left n mo) (show 112 < 256 by omega)
  have hc2 := S_nxt_eq (m := min n mo) (k := k) hs (Nat.min_le_left n mo) (show 116 < 256 by omega)
  have e243 : mo_readLine_243 h = some (0, px_w h 51 19 (nI k)) := by
    unfold mo_readLine_243 mo_readLine_251
    rw [M.2.2.2.1, mo_fault_0 M, B_bind]
  have e96 : mo_readLine_96 h = some (0, px_w h 51 19 (nI k)) := by
    unfold mo_readLine_96
    rw [hh, B_bind, bc_116]
    by_cases z : S_nxt sg (min n mo) k = nI 116
    · rw [if_pos z, eT, e24, nI_add, bc_10, if_pos (nI_le (by
        rw [hc2] at z
        by_cases w : T + q < 10
        · exact absurd ⟨w, z⟩ h2
        · omega) (by omega)), e243]
    · rw [if_neg z, e243]
  unfold mo_readLine
  rw [hh, B_bind, bc_112]
  by_cases z : S_nxt sg (min n mo) k = nI 112
  · rw [if_pos z, eP, e23, nI_add, bc_6, if_pos (nI_le (by
      rw [hc1] at z
      by_cases w : P + q0 < 6
      · exact absurd ⟨w, z⟩ h1
      · omega) (by omega)), e96]
  · rw [if_neg z, e96]
end ALINE
