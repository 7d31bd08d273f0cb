/-! Layer B: house: a person's line -/
section HLINE
variable {h : pH} {n m k mo N q : Nat} {sg : Nat → Nat}
/-- behind 'p': hold, bank, the place behind, the fault -/
def S_hp (sg : Nat → Nat) (m k : Nat) : Nat × Nat × Nat × Option Nat := match (S_nm sg m 1 99 k).2.2 with
  | some f => (0, 0, 0, some f)
  | none => if (S_nm sg m 1 99 k).2.1 < m ∧ sg (S_nm sg m 1 99 k).2.1 = 64 then (if S_o1 sg m 0 1 ((S_nm sg m 1 99 k).2.1 + 1) = true then ((S_nm sg m 1 99 k).1, sg ((S_nm sg m 1 99 k).2.1 + 1) - 48, (S_nm sg m 1 99 k).2.1 + 2, none) else (0, 0, 0, some ((S_nm sg m 1 99 k).2.1 + 1))) else ((S_nm sg m 1 99 k).1, 0, (S_nm sg m 1 99 k).2.1, none)
def E_hp (N : Nat) : Nat → Nat → Bool := fun a k => match a with
  | 1 => [2, 3, 4].contains k
  | 3 => Nat.beq k 12
  | 4 => Nat.beq k N
  | 5 => Nat.beq k N
  | 6 => Nat.beq k N
  | _ => false
theorem E_tx_hp : ∀ a k, E_tx a k = true → E_hp N a k = true := fun a k e => by
  unfold E_tx at e
  split at e
  · exact e
  · cases e
theorem S_o1_lt {lo hi : Nat} (w : S_o1 sg m lo hi k = true) : k < m ∧ 48 ≤ sg k ∧ sg k ≤ 57 ∧ lo ≤ sg k - 48 ∧ sg k - 48 ≤ hi := by
  unfold S_o1 at w
  simp only [Bool.and_eq_true, decide_eq_true_eq] at w
  obtain ⟨w1, w2, w3⟩ := S_dg_lt w.1
  exact ⟨w1, w2, w3, w.2.1, w.2.2⟩
theorem hs_readPerson_36_s {v b : Nat} (hN : N < 6) (hb : b < 2) (e12 : h 3 12 = nI N) (C : C_rd h n m k sg) : ∃ h', hs_readPerson_36 (nI v) (nI b) h = some (nI 1, h') ∧ C_rd h' n m k sg ∧ h' 4 N = nI v ∧ h' 5 N = nI b ∧ h' 6 N = nI 5 ∧ h' 3 12 = nI (N + 1) ∧ B_fr (E_hp N) h h' := by
  unfold hs_readPerson_36
  rw [bc_m1, if_neg (fun w => by rw [bn_eqm (by omega)] at w; exact w), e12, wp_4 hN, B_bind, B_w_cell _ _ _ (by decide), e12, wp_5 hN, B_bind, B_w_cell _ _ _ (by decide), B_w_cell _ _ _ (by decide), e12, bc_5, wp_6 hN, B_bind, bc_1, B_bz1]
  try dsimp only
  rw [B_w_cell _ _ _ (by decide), B_w_cell _ _ _ (by decide), B_w_cell _ _ _ (by decide), e12, nI_add]
  obtain ⟨c1, c2, c3, cs⟩ := C
  refine ⟨_, rfl, ⟨?_, ?_, ?_, fun j hj => ?_⟩, ?_, ?_, ?_, B_w_same _ _ _ _, ((((B_fr.refl _ h).w (show E_hp N 4 N = true from Nat.beq_refl N)).w (show E_hp N 5 N = true from Nat.beq_refl N)).w (show E_hp N 6 N = true from Nat.beq_refl N)).w rfl⟩
  · rw [B_w_cell _ _ _ (by decide), B_w_cell _ _ _ (by decide), B_w_cell _ _ _ (by decide), B_w_cell _ _ _ (by decide), c1]
  · rw [B_w_cell _ _ _ (by decide), B_w_cell _ _ _ (by decide), B_w_cell _ _ _ (by decide), B_w_cell _ _ _ (by decide), c2]
  · rw [B_w_cell _ _ _ (by decide), B_w_cell _ _ _ (by decide), B_w_cell _ _ _ (by decide), B_w_cell _ _ _ (by decide), c3]
  · rw [B_w_cell _ _ _ (by decide), B_w_cell _ _ _ (by decide), B_w_cell _ _ _ (by decide), B_w_cell _ _ _ (by decide)]
    exact cs j hj
  · rw [B_w_cell _ _ _ (by decide), B_w_cell _ _ _ (by decide), B_w_cell _ _ _ (by decide), B_w_same]
  · rw [B_w_cell _ _ _ (by decide), B_w_cell _ _ _ (by decide), B_w_same]
  · rw [B_w_cell _ _ _ (by decide), B_w_same]
theorem hs_readPerson_s (hN : N < 6) (e12 : h 3 12 = nI N) (C : C_rd h n m k sg) (hm : m ≤ n) (hn : n ≤ 80) (hk : k ≤ m) (hs : ∀ j, j < n → sg j < 256) : ∃ h', hs_readPerson h = some (if (S_hp sg m k).2.2.2 = none then nI 1 else 0, h') ∧ ((S_hp sg m k).2.2.2 = none → C_rd h' n m (S_hp sg m k).2.2.1 sg ∧ (S_hp sg m k).2.2.1 ≤ m ∧ h' 4 N = nI (S_hp sg m k).1 ∧ h' 5 N = nI (S_hp sg m k).2.1 ∧ h' 6 N = nI 5 ∧ h' 3 12 = nI (N + 1)) ∧ (∀ f, (S_hp sg m k).2.2.2 = some f → h' 1 4 = nI f) ∧ B_fr (E_hp N) h h' := by
  have e64 : px_c 64 = nI 64 := pc_n 64
  obtain ⟨h2, b1, b2, b3, b4⟩ := tx_number_s (lo := 1) (hi := 99) C hm hn hk hs (by omega) (by omega)
  have F2 : B_fr (E_hp N) h h2 := b4.mono E_tx_hp
  unfold hs_readPerson S_hp
  rw [bc_2, bc_1, bc_99, b1, B_bind, bc_m1, bc_0, B_bz0, e64]
  cases hf : (S_nm sg m 1 99 k).2.2 with
  | some f =>
    have hn1 : ¬ (some f : Option Nat) = none := fun w => by cases w
    rw [if_neg hn1, if_pos rfl]
    exact ⟨h2, rfl, (fun w => by cases w), fun f' e => by cases e; exact b3 f hf, F2⟩
  | none =>
    have hv := S_nm_ok hf
    have hle := (S_nm_le (sg := sg) (lo := 1) (hi := 99) hk).2
    rw [if_pos rfl]
    generalize S_nm sg m 1 99 k = z at *
    have hmt := tx_meet_m b2 hm hn hle hs (z := 64) (by omega)
    rw [if_neg (fun w => by rw [bn_eqm (by omega)] at w; exact w), hmt]
    by_cases q : z.2.1 < m ∧ sg z.2.1 = 64
    · simp only [if_pos q]
      rw [B_bind, if_neg (by decide)]
      have C3 := b2.to (z.2.1 + 1)
      have F3 : B_fr (E_hp N) h (px_w h2 1 2 (nI (z.2.1 + 1))) := F2.w rfl
      obtain ⟨h4, d1, d2, d3, d4⟩ := tx_num1_s (lo := 0) (hi := 1) C3 hm hn (by omega) hs (by omega) (by omega)
      rw [nI_0] at d1
      rw [d1, B_bind]
      have F4 : B_fr (E_hp N) h h4 := F3.trans (d4.mono E_tx_hp)
      cases ho : S_o1 sg m 0 1 (z.2.1 + 1) with
      | true =>
        have hw := S_o1_lt ho
        simp only [if_true]
        obtain ⟨h5, g1, g2, g3, g4, g5, g6, g7⟩ := hs_readPerson_36_s (v := z.1) (b := sg (z.2.1 + 1) - 48) hN (by omega) (by rw [d4 3 12 rfl, B_w_cell _ _ _ (by decide), b4 3 12 rfl, e12]) (d2 ho)
        exact ⟨h5, g1, fun _ => ⟨g2, by omega, g3, g4, g5, g6⟩, (fun f e => by cases e), F4.trans g7⟩
      | false =>
        simp only [Bool.false_eq_true, if_false]
        refine ⟨h4, ?_, (fun w => by cases w), fun f e => by cases e; exact d3 ho, F4⟩
        unfold hs_readPerson_36
        rw [bc_m1, if_pos rfl, bc_0, B_bz0]
        simp
    · simp only [if_neg q]
      rw [B_bind, if_pos rfl]
      obtain ⟨h5, g1, g2, g3, g4, g5, g6, g7⟩ := hs_readPerson_36_s (v := z.1) (b := 0) hN (by omega) (by rw [b4 3 12 rfl, e12]) b2
      rw [nI_0] at g1
      exact ⟨h5, by rw [g1]; simp, fun _ => ⟨g2, hle, g3, g4, g5, g6⟩, (fun f e => by cases e), F2.trans g7⟩
/-! the reference -/
def E_mp (q : Nat) : Nat → Nat → Bool := fun a k => match a with
  | 51 => [18, 19, 23].contains k
  | 61 => Nat.beq k (2 * q) || Nat.beq k (2 * q + 1)
  | _ => false
theorem E_mx_mp : ∀ a k, E_mx a k = true → E_mp q a k = true := fun a k e => by
  unfold E_mx at e
  split at e
  · have : k = 18 ∨ k = 19 := by simpa using e
    rcases this with rfl | rfl <;> rfl
  · cases e
theorem M_rd.cell {f : Option Nat} {h' : pH} (M : M_rd h n mo k sg f) (e1 : ∀ j, j = 15 ∨ j = 16 ∨ j = 17 ∨ j = 18 ∨ j = 19 → h' 51 j = h 51 j) (e2 : h' 58 = h 58) : M_rd h' n mo k sg f := by
  obtain ⟨c1, c2, c3, c4, c5, cs⟩ := M
  exact ⟨by rw [e1 15 (by omega), c1], by rw [e1 16 (by omega), c2], by rw [e1 17 (by omega), c3], by rw [e1 18 (by omega), c4], by rw [e1 19 (by omega), c5], fun j hj => by rw [e2]; exact cs j hj⟩
theorem mo_readLine_82_s {v : Int32} {f : Option Nat} {x : Nat} (hx : x < 12) (e23 : h 51 23 = nI q) (hq : q < 6) (M : M_rd h n mo k sg f) : mo_readLine_82 v (nI x) h = some (0, px_w (px_w h 61 x v) 51 23 (nI (q + 1))) ∧ M_rd (px_w (px_w h 61 x v) 51 23 (nI (q + 1))) n mo k sg f := by
  refine ⟨?_, M.cell (fun j hj => by rw [B_w_at, if_neg (by omega), B_w_cell _ _ _ (by decide)]) (by rw [B_w_cell _ _ _ (by decide), B_w_cell _ _ _ (by decide)])⟩
  unfold mo_readLine_82 mo_readLine_251
  rw [po_61 hx, B_ift, nI_clamp (by omega), bc_1]
  try dsimp only
  rw [B_w_cell _ _ _ (by decide), e23, nI_add]
theorem mo_person_line (hq : q < 6) (e23 : h 51 23 = nI q) (hPq : ∃ P, h 51 4 = nI P ∧ P + q < 6) (M : M_rd h n mo k sg none) (hn : n ≤ 80) (hmo : mo < 2 ^ 31) (hk : k < min n mo) (hs : ∀ j, j < n → sg j < 256) (hp : sg k = 112) : ∃ h' k2, mo_readLine h = some (0, h') ∧ M_rd h' n mo k2 sg (S_hp sg (min n mo) (k + 1)).2.2.2 ∧ ((S_hp sg (min n mo) (k + 1)).2.2.2 = none → k2 = (S_hp sg (min n mo) (k + 1)).2.2.1 ∧ h' 61 (2 * q) = nI (S_hp sg (min n mo) (k + 1)).1 ∧ h' 61 (2 * q + 1) = nI (S_hp sg (min n mo) (k + 1)).2.1 ∧ h' 51 23 = nI (q + 1)) ∧ B_fr (E_mp q) h h' := by
  have e112 : px_c 112 = nI 112 := bc_112
  have e64 : px_c 64 = nI 64 := pc_n 64
  obtain ⟨P, eP, hP⟩ := hPq
  have hh := mo_here_s M hn hmo (by omega) hs
  have ex : S_nxt sg (min n mo) k = nI 112 := by
    unfold S_nxt
    rw [if_pos hk, hp]
  have M1 := M.to (k + 1)
  obtain ⟨z, h2, d1, d2, d3, d4⟩ := mo_number_s (lo := 1) (hi := 99) M1 hn hmo (by omega) hs (by omega) (by omega)
  have b61 : ∀ x : Nat, x = 2 * q ∨ x = 2 * q + 1 → E_mp q 61 x = true := fun x hx => by
    show (Nat.beq x (2 * q) || Nat.beq x (2 * q + 1)) = true
    rcases hx with rfl | rfl
    · rw [Nat.beq_refl, Bool.true_or]
    · rw [Nat.beq_refl, Bool.or_true]
  have F1 : B_fr (E_mp q) h (px_w h 51 18 (nI (k + 1))) := (B_fr.refl _ h).w rfl
  have F2 : B_fr (E_mp q) h h2 := F1.trans (d4.mono E_mx_mp)
  generalize hH3 : px_w h2 61 (2 * q) z = h3
  have F3 : B_fr (E_mp q) h h3 := by rw [← hH3]; exact F2.w (b61 _ (Or.inl rfl))
  have M3 : M_rd h3 n mo (S_nm sg (min n mo) 1 99 (k + 1)).2.1 sg (S_nm sg (min n mo) 1 99 (k + 1)).2.2 := d3.cell (fun j hj => by rw [← hH3, B_w_cell _ _ _ (by decide)]) (by rw [← hH3, B_w_cell _ _ _ (by decide)])
  have g23 : h3 51 23 = nI q := by rw [← hH3, B_w_cell _ _ _ (by decide), d4 51 23 rfl, B_w_at, if_neg (by decide), e23]
  have g61 : h3 61 (2 * q) = z := by rw [← hH3, B_w_same]
  have hz : mo_readLine h = mo_readLine_51 h3 := by
    unfold mo_readLine
    rw [hh, B_bind, ex, e112, if_pos rfl, eP, e23, nI_add, bc_6, if_neg (nI_ge (by omega) (by omega)), M.2.2.2.1, bc_1, bc_99, bc_2, nI_add]
    dsimp only
    rw [d1, B_bind, B_w_at, if_neg (by decide), e23, pk_mul, po_61 (by omega), B_ift, nI_clamp (by omega), hH3]
  have hle := (S_nm_le (sg := sg) (lo := 1) (hi := 99) (show k + 1 ≤ min n mo by omega)).2
  rw [hz]
  unfold mo_readLine_51 S_hp
  rw [g23, bc_2, bc_1, bc_0, pk_mul, nI_add, e64]
  cases hf : (S_nm sg (min n mo) 1 99 (k + 1)).2.2 with
  | some f =>
    rw [hf] at M3
    have hfn := S_nm_f (by omega) hf
    obtain ⟨a1, a2⟩ := mo_readLine_82_s (v := 0) (x := 2 * q + 1) (by omega) g23 hq M3
    rw [mo_passes_1 (by omega) M3, B_bind, if_pos rfl, a1]
    exact ⟨_, _, rfl, a2, (fun w => by cases w), (F3.w (b61 _ (Or.inr rfl))).w rfl⟩
  | none =>
    have hzz := d2 hf
    rw [hf] at M3
    rw [hzz] at g61
    generalize S_nm sg (min n mo) 1 99 (k + 1) = z0 at *
    rw [mo_passes_0 M3 hn hmo (by omega) hs (z := 64) (by omega)]
    by_cases w : z0.2.1 < min n mo ∧ sg z0.2.1 = 64
    · simp only [if_pos w]
      rw [B_bind, if_neg (by decide)]
      have M4 := M3.to (z0.2.1 + 1)
      have hd := mo_digit_lh (lo := 0) (hi := 1) (by omega) (by omega) M4 hn hmo (by omega) hs
      rw [nI_0] at hd
      rw [hd]
      cases ho : S_o1 sg (min n mo) 0 1 (z0.2.1 + 1) with
      | true =>
        simp only [if_true]
        rw [B_bind]
        obtain ⟨a1, a2⟩ := mo_readLine_82_s (v := nI (sg (z0.2.1 + 1) - 48)) (x := 2 * q + 1) (by omega) (show (px_w (px_w h3 51 18 (nI (z0.2.1 + 1))) 51 18 (nI (z0.2.1 + 1 + 1))) 51 23 = nI q by rw [B_w_at, if_neg (by decide), B_w_at, if_neg (by decide), g23]) hq (M4.to (z0.2.1 + 1 + 1))
        rw [a1]
        refine ⟨_, _, rfl, a2, fun _ => ⟨rfl, ?_, ?_, B_w_same _ _ _ _⟩, (((F3.w rfl).w rfl).w (b61 _ (Or.inr rfl))).w rfl⟩
        · rw [B_w_cell _ _ _ (by decide), B_w_at, if_neg (by omega), B_w_cell _ _ _ (by decide), B_w_cell _ _ _ (by decide), g61]
        · rw [B_w_cell _ _ _ (by decide), B_w_same]
      | false =>
        simp only [Bool.false_eq_true, if_false]
        rw [B_bind]
        obtain ⟨a1, a2⟩ := mo_readLine_82_s (v := 0) (x := 2 * q + 1) (by omega) (show (px_w (px_w h3 51 18 (nI (z0.2.1 + 1))) 51 19 (nI (z0.2.1 + 1))) 51 23 = nI q by rw [B_w_at, if_neg (by decide), B_w_at, if_neg (by decide), g23]) hq (M4.fl (z0.2.1 + 1))
        rw [a1]
        exact ⟨_, _, rfl, a2, (fun w => by cases w), (((F3.w rfl).w rfl).w (b61 _ (Or.inr rfl))).w rfl⟩
    · simp only [if_neg w]
      rw [B_bind, if_pos rfl]
      obtain ⟨a1, a2⟩ := mo_readLine_82_s (v := 0) (x := 2 * q + 1) (by omega) g23 hq M3
      rw [a1]
      refine ⟨_, _, rfl, a2, fun _ => ⟨rfl, ?_, ?_, B_w_same _ _ _ _⟩, (F3.w (b61 _ (Or.inr rfl))).w rfl⟩
      · rw [B_w_cell _ _ _ (by decide), B_w_at, if_neg (by omega), g61]
      · rw [B_w_cell _ _ _ (by decide), B_w_same, nI_0]
end HLINE
