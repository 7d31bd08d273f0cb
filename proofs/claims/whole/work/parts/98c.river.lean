/-! Layer B: river -/
section RIVER
variable {h : pH} {n k y : Nat} {sg : Nat → Nat}
theorem S_nm_le {m lo hi : Nat} (hk : k ≤ m) : k ≤ (S_nm sg m lo hi k).2.1 ∧ (S_nm sg m lo hi k).2.1 ≤ m := by
  unfold S_nm S_ck
  split
  · rename_i q
    have := S_dg_lt q
    split
    · rename_i q2
      have := S_dg_lt q2
      exact ⟨by show k ≤ k + 2; omega, by show k + 2 ≤ m; omega⟩
    · exact ⟨by show k ≤ k + 1; omega, by show k + 1 ≤ m; omega⟩
  · exact ⟨Nat.le_refl _, hk⟩
theorem S_nm_ok {m lo hi : Nat} (q : (S_nm sg m lo hi k).2.2 = none) : lo ≤ (S_nm sg m lo hi k).1 ∧ (S_nm sg m lo hi k).1 ≤ hi := by
  unfold S_nm S_ck at *
  split at q
  · rename_i q1
    rw [if_pos q1]
    split at q
    · rename_i q2
      rw [if_pos q2]
      dsimp only at *
      by_cases w : lo ≤ 10 * (sg k - 48) + (sg (k + 1) - 48) ∧ 10 * (sg k - 48) + (sg (k + 1) - 48) ≤ hi
      · exact w
      · rw [if_neg w] at q
        cases q
    · rename_i q2
      rw [if_neg q2]
      dsimp only at *
      by_cases w : lo ≤ sg k - 48 ∧ sg k - 48 ≤ hi
      · exact w
      · rw [if_neg w] at q
        cases q
  · cases q
theorem S_nm_f {m lo hi f : Nat} (hk : k ≤ m) (q : (S_nm sg m lo hi k).2.2 = some f) : f ≤ m := by
  unfold S_nm S_ck at q
  split at q
  · rename_i q1
    have := S_dg_lt q1
    split at q
    · rename_i q2
      have := S_dg_lt q2
      dsimp only at q
      split at q
      · cases q
      · cases q
        omega
    · dsimp only at q
      split at q
      · cases q
      · cases q
        omega
  · cases q
    exact hk
/-- islets, from the c-th on: how many there are, the fault, where they lie -/
def S_rl (sg : Nat → Nat) (n y : Nat) : Nat → Nat → Nat → Nat → (Nat → Nat) → Nat × Option Nat × (Nat → Nat)
  | 0, c, _, k, v => (c, if k = n then none else some k, v)
  | d + 1, c, p, k, v => if k < n ∧ sg k = 44 then (match (S_nm sg n (p + 1) (y - 1) (k + 1)).2.2 with
    | some f => (c, some f, v)
    | none => S_rl sg n y d (c + 1) (S_nm sg n (p + 1) (y - 1) (k + 1)).1 (S_nm sg n (p + 1) (y - 1) (k + 1)).2.1 (fun j => if j = c then (S_nm sg n (p + 1) (y - 1) (k + 1)).1 else v j)) else (c, if k = n then none else some k, v)
theorem S_rl_ok : ∀ (d c p k : Nat) (v : Nat → Nat), (∀ j, j < c → 1 ≤ v j ∧ v j < y) → (∀ j, j < c → ∀ i, i < j → v i < v j) → (0 < c → p = v (c - 1)) → (S_rl sg n y d c p k v).2.1 = none → (S_rl sg n y d c p k v).1 ≤ c + d ∧ (∀ j, j < (S_rl sg n y d c p k v).1 → 1 ≤ (S_rl sg n y d c p k v).2.2 j ∧ (S_rl sg n y d c p k v).2.2 j < y) ∧ (∀ j, j < (S_rl sg n y d c p k v).1 → ∀ i, i < j → (S_rl sg n y d c p k v).2.2 i < (S_rl sg n y d c p k v).2.2 j) := by
  intro d
  induction d with
  | zero =>
    intro c p k v h1 h2 h3 q
    exact ⟨Nat.le_refl _, h1, h2⟩
  | succ d ih =>
    intro c p k v h1 h2 h3 q
    unfold S_rl at q ⊢
    by_cases w : k < n ∧ sg k = 44
    · rw [if_pos w] at q ⊢
      cases hf : (S_nm sg n (p + 1) (y - 1) (k + 1)).2.2 with
      | some f =>
        rw [hf] at q
        cases q
      | none =>
        rw [hf] at q
        have hv := S_nm_ok hf
        generalize S_nm sg n (p + 1) (y - 1) (k + 1) = z at *
        dsimp only at q ⊢
        have := ih (c + 1) z.1 z.2.1 (fun j => if j = c then z.1 else v j) (fun j hj => by
          by_cases e : j = c
          · simp only [if_pos e]
            omega
          · simp only [if_neg e]
            exact h1 j (by omega)) (fun j hj i hi => by
          by_cases e : j = c
          · simp only [if_pos e, if_neg (show ¬ i = c by omega)]
            have hc : 0 < c := by omega
            have e2 := h3 hc
            by_cases e3 : i = c - 1
            · rw [e3]
              omega
            · have := h2 (c - 1) (by omega) i (by omega)
              omega
          · simp only [if_neg e, if_neg (show ¬ i = c by omega)]
            exact h2 j (by omega) i hi) (fun _ => by simp) q
        exact ⟨by omega, this.2⟩
    · rw [if_neg w] at q ⊢
      exact ⟨by show c ≤ _; omega, h1, h2⟩
theorem S_rl_f : ∀ (d c p k : Nat) (v : Nat → Nat) (f : Nat), k ≤ n → (S_rl sg n y d c p k v).2.1 = some f → f ≤ n := by
  intro d
  induction d with
  | zero =>
    intro c p k v f hk q
    unfold S_rl at q
    dsimp only at q
    split at q
    · cases q
    · cases q
      exact hk
  | succ d ih =>
    intro c p k v f hk q
    unfold S_rl at q
    by_cases w : k < n ∧ sg k = 44
    · rw [if_pos w] at q
      cases hf : (S_nm sg n (p + 1) (y - 1) (k + 1)).2.2 with
      | some f' =>
        rw [hf] at q
        cases q
        exact S_nm_f (by omega) hf
      | none =>
        rw [hf] at q
        exact ih _ _ _ _ f (S_nm_le (by omega)).2 q
    · rw [if_neg w] at q
      dsimp only at q
      split at q
      · cases q
      · cases q
        exact hk
def E_rvc : Nat → Nat → Bool := fun a k => match a with
  | 1 => [2, 3, 4].contains k
  | 14 => [2, 3].contains k
  | 15 => true
  | 16 => true
  | _ => false
def E_rvf : Nat → Nat → Bool := fun a k => match a with
  | 1 => [2, 3, 4].contains k
  | 16 => true
  | _ => false
theorem E_tx_rvf : ∀ a k, E_tx a k = true → E_rvf a k = true := fun a k e => by
  unfold E_tx at e
  split at e
  · exact e
  · cases e
theorem E_rvf_c : ∀ a k, E_rvf a k = true → E_rvc a k = true := fun a k e => by
  unfold E_rvf at e
  split at e
  · exact e
  · rfl
  · cases e
theorem rv_read_110_s {c : Nat} {v : Nat → Nat} (hc : c ≤ 5) : ∀ (m j n' : Nat) (h : pH), j + m = c → m < n' → (∀ i, i < c → h 16 i = nI (v i)) → (∀ i, i < j → h 15 i = nI (v i)) → ∃ h', rv_read_110 n' (nI c) (nI j) h = some (nI c, h') ∧ (∀ i, i < c → h' 15 i = nI (v i)) ∧ B_fr (E_a 15) h h' := by
  intro m
  induction m with
  | zero =>
    intro j n' h hj hn e16 e15
    obtain ⟨n', rfl⟩ : ∃ n'', n' = n'' + 1 := ⟨n' - 1, by omega⟩
    refine ⟨h, ?_, fun i hi => e15 i (by omega), B_fr.refl _ _⟩
    show (if nI c ≤ nI j then _ else _) = _
    rw [if_pos (nI_le (by omega) (by omega))]
  | succ m ih =>
    intro j n' h hj hn e16 e15
    obtain ⟨n', rfl⟩ : ∃ n'', n' = n'' + 1 := ⟨n' - 1, by omega⟩
    obtain ⟨h', a1, a2, a3⟩ := ih (j + 1) n' (px_w h 15 j (nI (v j))) (by omega) (by omega) (fun i hi => by rw [B_w_cell _ _ _ (by decide)]; exact e16 i hi) (fun i hi => by
      rw [B_w_at]
      by_cases q : i = j
      · rw [if_pos q, q]
      · rw [if_neg q]
        exact e15 i (by omega))
    refine ⟨h', ?_, a2, B_fr.trans ((B_fr.refl _ h).w rfl) a3⟩
    show (if nI c ≤ nI j then _ else px_bind (wu_at 16 (nI j) h) _) = _
    rw [if_neg (nI_ge (by omega) (by omega)), wa_16 (by omega), B_bind, e16 j (by omega), wp_15 (by omega), B_bind, bc_1, nI_add]
    exact a1
def S_ra (x : Nat × Option Nat × (Nat → Nat)) : Int32 := match x.2.1 with
  | none => nI x.1
  | some f => -1 - nI f
theorem rv_read_85_s {c : Nat} {v : Nat → Nat} (hc : c ≤ 5) (C : C_rd h n n k sg) (hk : k ≤ n) (hn : n ≤ 80) (e16 : ∀ i, i < c → h 16 i = nI (v i)) : ∃ h', rv_read_85 (nI y) (nI c) h = some (S_ra (c, if k = n then none else some k, v), h') ∧ (k = n → h' 14 3 = nI y ∧ h' 14 2 = nI c ∧ ∀ i, i < c → h' 15 i = nI (v i)) ∧ B_fr E_rvc h h' ∧ (¬ k = n → B_fr E_rvf h h') := by
  unfold rv_read_85 tx_closes tx_closes_18 tx_closes_23
  rw [C.1, C.2.1, bc_1, bc_0, B_bz1]
  by_cases q : k = n
  · rw [if_pos (by rw [q]), B_bind, if_neg (by decide)]
    simp only [if_pos q]
    obtain ⟨h', a1, a2, a3⟩ := rv_read_110_s (v := v) hc c 0 px_F (px_w (px_w h 14 3 (nI y)) 14 2 (nI c)) (by omega) (px_F_lt (by omega)) (fun i hi => by rw [B_w_cell _ _ _ (by decide), B_w_cell _ _ _ (by decide)]; exact e16 i hi) (fun i hi => absurd hi (by omega))
    rw [nI_0] at a1
    refine ⟨h', a1, fun _ => ⟨?_, ?_, a2⟩, ?_, fun w => absurd q w⟩
    · rw [a3 14 3 rfl, B_w_at, if_neg (by decide), B_w_same]
    · rw [a3 14 2 rfl, B_w_same]
    · exact (((B_fr.refl _ h).w rfl).w rfl).trans (a3.mono (fun a k e => by
        have := Nat.eq_of_beq_eq_true e
        subst this
        rfl))
  · rw [if_neg (fun w => q ((nI_eq (by omega) (by omega)).mp w))]
    unfold tx_refuse
    dsimp only
    rw [C.2.1, bc_0, B_bz0, B_bind, if_pos rfl, B_bz0, B_bind, if_pos rfl]
    unfold tx_answer
    rw [bc_m1, B_w_same, B_bind]
    simp only [if_neg q]
    exact ⟨_, rfl, fun w => absurd w q, (B_fr.refl _ h).w rfl, fun _ => (B_fr.refl _ h).w rfl⟩
theorem tx_meet_s (C : C_rd h n n k sg) (hk : k ≤ n) (hn : n ≤ 80) (hs : ∀ j, j < n → sg j < 256) {z : Nat} (hz : z < 256) : tx_meet (nI z) h = if k < n ∧ sg k = z then some (nI 1, px_w h 1 2 (nI (k + 1))) else some (0, h) := by
  unfold tx_meet
  rw [tx_next_s C (Nat.le_refl _) hn hk, B_bind, bc_1, bc_0, B_bz0, B_bz1]
  unfold S_nxt
  try dsimp only
  rw [C.2.1, nI_add]
  by_cases q : k < n
  · have := hs k q
    rw [if_pos q]
    by_cases w : sg k = z
    · rw [if_pos (by rw [w]), if_pos ⟨q, w⟩]
    · rw [if_neg (fun e => w ((nI_eq (by omega) (by omega)).mp e)), if_neg (fun e => w e.2)]
  · rw [if_neg q, if_neg (fun e => by
      have e2 : nI z = -1 := e.symm
      rw [bn_eqm (by omega)] at e2
      exact e2), if_neg (fun e => q e.1)]
theorem rv_read_30_s (hn : n ≤ 80) (hs : ∀ j, j < n → sg j < 256) (hy2 : 2 ≤ y) (hy60 : y ≤ 60) : ∀ (d c p k n' : Nat) (v : Nat → Nat) (h : pH), c + d = 5 → d < n' → k ≤ n → p < 60 → C_rd h n n k sg → (∀ i, i < c → h 16 i = nI (v i)) → ∃ h', rv_read_30 n' (nI y) (nI c) (nI p) h = some (S_ra (S_rl sg n y d c p k v), h') ∧ ((S_rl sg n y d c p k v).2.1 = none → h' 14 3 = nI y ∧ h' 14 2 = nI (S_rl sg n y d c p k v).1 ∧ ∀ i, i < (S_rl sg n y d c p k v).1 → h' 15 i = nI ((S_rl sg n y d c p k v).2.2 i)) ∧ B_fr E_rvc h h' ∧ (¬ (S_rl sg n y d c p k v).2.1 = none → B_fr E_rvf h h') := by
  have e44 : px_c 44 = nI 44 := pc_n 44
  intro d
  induction d with
  | zero =>
    intro c p k n' v h hc hn' hk hp C e16
    obtain ⟨n', rfl⟩ : ∃ n'', n' = n'' + 1 := ⟨n' - 1, by omega⟩
    obtain ⟨h', a1, a2, a3, a4⟩ := rv_read_85_s (y := y) (v := v) (show c ≤ 5 by omega) C hk hn e16
    unfold S_rl
    refine ⟨h', ?_, fun q => a2 ?_, a3, fun q => a4 (fun w => q ?_)⟩
    · show (if px_c 5 ≤ nI c then _ else _) = _
      rw [bc_5, if_pos (nI_le (by omega) (by omega))]
      exact a1
    · by_cases w : k = n
      · exact w
      · simp only [if_neg w] at q
        cases q
    · simp only [if_pos w]
  | succ d ih =>
    intro c p k n' v h hc hn' hk hp C e16
    obtain ⟨n', rfl⟩ : ∃ n'', n' = n'' + 1 := ⟨n' - 1, by omega⟩
    have hz : rv_read_30 (n' + 1) (nI y) (nI c) (nI p) h = px_bind (tx_meet (nI 44) h) fun z1 h2 => if z1 = 0 then rv_read_85 (nI y) (nI c) h2 else px_bind (tx_number (nI 2) (nI (p + 1)) (nI (y - 1)) h2) fun z3 h4 => if z3 = -1 then px_bind (tx_answer h4) fun z5 h6 => some (z5, h6) else px_bind (wu_put 16 (nI c) z3 h4) fun _ h8 => rv_read_30 n' (nI y) (nI (c + 1)) z3 h8 := by
      show (if px_c 5 ≤ nI c then _ else _) = _
      rw [bc_5, if_neg (nI_ge (by omega) (by omega)), e44, bc_1, bc_2, nI_add, nI_add, pk_sub (by omega), bc_m1]
    rw [hz, tx_meet_s C hk hn hs (by omega)]
    unfold S_rl
    by_cases w : k < n ∧ sg k = 44
    · rw [if_pos w, if_pos w, B_bind, if_neg (by decide)]
      have C2 := C.to (k + 1)
      obtain ⟨h2, b1, b2, b3, b4⟩ := tx_number_s (lo := p + 1) (hi := y - 1) C2 (Nat.le_refl _) hn (by omega) hs (by omega) (by omega)
      have F2 : B_fr E_rvf h h2 := B_fr.trans ((B_fr.refl _ h).w rfl) (b4.mono E_tx_rvf)
      rw [b1, B_bind]
      cases hf : (S_nm sg n (p + 1) (y - 1) (k + 1)).2.2 with
      | some f =>
        have e4 := b3 f hf
        have hn1 : ¬ (some f : Option Nat) = none := fun w => by cases w
        rw [if_neg hn1, if_pos rfl]
        unfold tx_answer
        rw [e4, B_bind, bc_m1]
        exact ⟨h2, rfl, (fun q => by cases q), F2.mono E_rvf_c, fun _ => F2⟩
      | none =>
        have hv := S_nm_ok hf
        have hle := S_nm_le (sg := sg) (lo := p + 1) (hi := y - 1) (show k + 1 ≤ n by omega)
        rw [if_pos rfl]
        generalize S_nm sg n (p + 1) (y - 1) (k + 1) = z at *
        rw [if_neg (fun e => by rw [bn_eqm (by omega)] at e; exact e), wp_16 (by omega), B_bind]
        have C3 : C_rd (px_w h2 16 c (nI z.1)) n n z.2.1 sg := by
          obtain ⟨c1, c2, c3, cs⟩ := b2
          exact ⟨by rw [B_w_cell _ _ _ (by decide), c1], by rw [B_w_cell _ _ _ (by decide), c2], by rw [B_w_cell _ _ _ (by decide), c3], fun j hj => by rw [B_w_cell _ _ _ (by decide)]; exact cs j hj⟩
        obtain ⟨h3, a1, a2, a3, a4⟩ := ih (c + 1) z.1 z.2.1 n' (fun j => if j = c then z.1 else v j) _ (by omega) (by omega) (by omega) (by omega) C3 (fun i hi => by
          rw [B_w_at]
          by_cases e : i = c
          · simp only [if_pos e]
          · simp only [if_neg e]
            rw [b4 16 i rfl, B_w_cell _ _ _ (by decide)]
            exact e16 i (by omega))
        have F3 : B_fr E_rvf h (px_w h2 16 c (nI z.1)) := F2.w rfl
        exact ⟨h3, a1, a2, (F3.mono E_rvf_c).trans a3, fun q => F3.trans (a4 q)⟩
    · rw [if_neg w, if_neg w, B_bind, if_pos rfl]
      obtain ⟨h', a1, a2, a3, a4⟩ := rv_read_85_s (y := y) (v := v) (show c ≤ 5 by omega) C hk hn e16
      refine ⟨h', a1, fun q => a2 ?_, a3, fun q => a4 (fun w2 => q ?_)⟩
      · by_cases w2 : k = n
        · exact w2
        · simp only [if_neg w2] at q
          cases q
      · simp only [if_pos w2]
/-- a river's text: the yards, the islets -/
def S_rv (sg : Nat → Nat) (n : Nat) : Nat × (Nat × Option Nat × (Nat → Nat)) := match (S_nm sg n 2 60 0).2.2 with
  | some f => (0, 0, some f, fun _ => 0)
  | none => ((S_nm sg n 2 60 0).1, S_rl sg n (S_nm sg n 2 60 0).1 5 0 0 (S_nm sg n 2 60 0).2.1 (fun _ => 0))
theorem rv_read_s (hn : n ≤ 80) (hs : ∀ j, j < n → sg j < 256) (e1 : h 1 1 = nI n) (e2 : ∀ j, j < n → h 2 j = nI (sg j)) : ∃ h', rv_read h = some (S_ra (S_rv sg n).2, h') ∧ ((S_rv sg n).2.2.1 = none → h' 14 3 = nI (S_rv sg n).1 ∧ h' 14 2 = nI (S_rv sg n).2.1 ∧ ∀ i, i < (S_rv sg n).2.1 → h' 15 i = nI ((S_rv sg n).2.2.2 i)) ∧ B_fr E_rvc h h' ∧ (¬ (S_rv sg n).2.2.1 = none → B_fr E_rvf h h') := by
  have C0 : C_rd (px_w (px_w (px_w h 1 2 0) 1 3 (nI n)) 1 4 (-1)) n n 0 sg := ⟨by rw [B_w_at, if_neg (by decide), B_w_at, if_neg (by decide), B_w_at, if_neg (by decide), e1], by rw [B_w_at, if_neg (by decide), B_w_at, if_neg (by decide), B_w_same, nI_0], by rw [B_w_at, if_neg (by decide), B_w_same], fun j hj => by rw [B_w_cell _ _ _ (by decide), B_w_cell _ _ _ (by decide), B_w_cell _ _ _ (by decide)]; exact e2 j hj⟩
  have F0 : B_fr E_rvf h (px_w (px_w (px_w h 1 2 0) 1 3 (nI n)) 1 4 (-1)) := (((B_fr.refl _ h).w rfl).w rfl).w rfl
  have hop : tx_open (px_c 80) h = some (0, px_w (px_w (px_w h 1 2 0) 1 3 (nI n)) 1 4 (-1)) := by
    unfold tx_open
    dsimp only
    rw [bc_0, bc_m1, bc_80, B_w_at, if_neg (by decide), e1, px_min_nI (by omega) (by omega), Nat.min_eq_left hn]
  obtain ⟨h2, b1, b2, b3, b4⟩ := tx_number_s (lo := 2) (hi := 60) C0 (Nat.le_refl _) hn (by omega) hs (by omega) (by omega)
  have F2 := F0.trans (b4.mono E_tx_rvf)
  unfold rv_read S_rv
  rw [hop, B_bind, bc_2, bc_60, b1, B_bind, bc_m1]
  cases hf : (S_nm sg n 2 60 0).2.2 with
  | some f =>
    have hn1 : ¬ (some f : Option Nat) = none := fun w => by cases w
    rw [if_neg hn1, if_pos rfl]
    unfold tx_answer
    rw [b3 f hf, B_bind, bc_m1]
    exact ⟨h2, rfl, (fun q => by cases q), F2.mono E_rvf_c, fun _ => F2⟩
  | none =>
    have hv := S_nm_ok hf
    have hle := S_nm_le (sg := sg) (lo := 2) (hi := 60) (show 0 ≤ n by omega)
    rw [if_pos rfl]
    generalize S_nm sg n 2 60 0 = z at *
    rw [if_neg (fun e => by rw [bn_eqm (by omega)] at e; exact e), bc_0, ← nI_0]
    obtain ⟨h3, a1, a2, a3, a4⟩ := rv_read_30_s hn hs hv.1 hv.2 5 0 0 z.2.1 px_F (fun _ => 0) h2 (by omega) (px_F_lt (by omega)) hle.2 (by omega) b2 (fun i hi => absurd hi (by omega))
    exact ⟨h3, a1, a2, (F2.mono E_rvf_c).trans a3, fun q => F2.trans (a4 q)⟩
def E_rm : Nat → Nat → Bool := fun a k => match a with
  | 51 => [1, 2, 18, 19, 35, 60].contains k
  | 53 => true
  | 60 => true
  | _ => false
def E_rmf : Nat → Nat → Bool := fun a k => match a with
  | 51 => [18, 19].contains k
  | 60 => true
  | _ => false
theorem E_mx_rmf : ∀ a k, E_mx a k = true → E_rmf a k = true := fun a k e => by
  unfold E_mx at e
  split at e
  · exact e
  · cases e
theorem E_rmf_m : ∀ a k, E_rmf a k = true → E_rm a k = true := fun a k e => by
  unfold E_rmf at e
  split at e
  · have : k = 18 ∨ k = 19 := by simpa using e
    rcases this with rfl | rfl <;> rfl
  · rfl
  · cases e
theorem mo_river_187_s {c : Nat} {v : Nat → Nat} (hc : c ≤ 5) : ∀ (m j n' : Nat) (h : pH), j + m = c → m < n' → (∀ i, i < c → h 60 i = nI (v i)) → (∀ i, i < j → h 53 i = nI (v i)) → ∃ h', mo_river_187 n' (nI c) (nI j) h = some (nI c, h') ∧ (∀ i, i < c → h' 53 i = nI (v i)) ∧ h' 51 35 = 0 ∧ h' 51 60 = h 51 60 + nI 1 ∧ h' 51 1 = h 51 1 ∧ h' 51 2 = h 51 2 ∧ B_fr E_rm h h' := by
  intro m
  induction m with
  | zero =>
    intro j n' h hj hn e16 e15
    obtain ⟨n', rfl⟩ : ∃ n'', n' = n'' + 1 := ⟨n' - 1, by omega⟩
    refine ⟨px_w (px_w h 51 35 0) 51 60 (h 51 60 + nI 1), ?_, fun i hi => ?_, ?_, B_w_same _ _ _ _, ?_, ?_, ((B_fr.refl _ h).w rfl).w rfl⟩
    · show (if nI c ≤ nI j then _ else _) = _
      rw [if_pos (nI_le (by omega) (by omega)), bc_0]
      unfold mo_river_215
      dsimp only
      rw [bc_1, B_w_at, if_neg (by decide)]
    · rw [B_w_cell _ _ _ (by decide), B_w_cell _ _ _ (by decide)]
      exact e15 i (by omega)
    · rw [B_w_at, if_neg (by decide), B_w_same]
    · rw [B_w_at, if_neg (by decide), B_w_at, if_neg (by decide)]
    · rw [B_w_at, if_neg (by decide), B_w_at, if_neg (by decide)]
  | succ m ih =>
    intro j n' h hj hn e16 e15
    obtain ⟨n', rfl⟩ : ∃ n'', n' = n'' + 1 := ⟨n' - 1, by omega⟩
    obtain ⟨h', a1, a2, a3, a4, a5, a6, a7⟩ := ih (j + 1) n' (px_w h 53 j (nI (v j))) (by omega) (by omega) (fun i hi => by rw [B_w_cell _ _ _ (by decide)]; exact e16 i hi) (fun i hi => by
      rw [B_w_at]
      by_cases q : i = j
      · rw [if_pos q, q]
      · rw [if_neg q]
        exact e15 i (by omega))
    refine ⟨h', ?_, a2, a3, a4, a5, a6, B_fr.trans ((B_fr.refl _ h).w rfl) a7⟩
    show (if nI c ≤ nI j then _ else px_if (px_ok 0 60 (nI j)) _) = _
    rw [if_neg (nI_ge (by omega) (by omega)), po_60 (by omega), B_ift, po_53 (by omega), B_ift, nI_clamp (by omega), e16 j (by omega), bc_1, nI_add]
    exact a1
theorem mo_river_161_f {f : Nat} {x1 x2 : Int32} (hf : f < 2 ^ 31) (M : M_rd h n 80 k sg (some f)) : mo_river_161 x1 x2 h = some (-1 - nI f, h) := by
  unfold mo_river_161
  rw [mo_fine_1 hf M, B_bind, if_pos rfl, bc_m1, M.2.2.2.2.1]
  rfl
theorem mo_river_142_f {f : Nat} {x1 x2 : Int32} (hf : f < 2 ^ 31) (M : M_rd h n 80 k sg (some f)) : mo_river_142 x1 x2 h = some (-1 - nI f, h) := by
  unfold mo_river_142
  rw [mo_fault_1 hf M, B_bind, mo_river_161_f hf M]
  split <;> rfl
theorem mo_river_63_f {f n' : Nat} {x1 x2 : Int32} (hf : f < 2 ^ 31) (M : M_rd h n 80 k sg (some f)) : mo_river_63 (n' + 1) x1 x2 h = some (-1 - nI f, h) := by
  show px_bind (mo_fine h) _ = _
  rw [mo_fine_1 hf M, B_bind, if_pos rfl, mo_river_142_f hf M]
theorem mo_river_142_s {c : Nat} {v : Nat → Nat} (hc : c ≤ 5) (M : M_rd h n 80 k sg none) (hk : k ≤ n) (hn : n ≤ 80) (e16 : ∀ i, i < c → h 60 i = nI (v i)) : ∃ h', mo_river_142 (nI y) (nI c) h = some (S_ra (c, if k = n then none else some k, v), h') ∧ (k = n → h' 51 1 = nI y ∧ h' 51 2 = nI c ∧ (∀ i, i < c → h' 53 i = nI (v i)) ∧ h' 51 35 = 0 ∧ h' 51 60 = h 51 60 + nI 1) ∧ B_fr E_rm h h' ∧ (¬ k = n → B_fr E_rmf h h') := by
  unfold mo_river_142
  rw [M.2.1, M.2.2.2.1]
  by_cases q : k = n
  · rw [if_pos (nI_le (by omega) (by omega))]
    unfold mo_river_161 mo_river_185
    rw [mo_fine_0 M, B_bind, if_neg (by decide), bc_0]
    obtain ⟨h', a1, a2, a3, a4, a5, a6, a7⟩ := mo_river_187_s (v := v) hc c 0 px_F (px_w (px_w h 51 1 (nI y)) 51 2 (nI c)) (by omega) (px_F_lt (by omega)) (fun i hi => by rw [B_w_cell _ _ _ (by decide), B_w_cell _ _ _ (by decide)]; exact e16 i hi) (fun i hi => absurd hi (by omega))
    rw [nI_0] at a1
    simp only [if_pos q]
    refine ⟨h', a1, fun _ => ⟨?_, ?_, a2, a3, ?_⟩, ?_, fun w => absurd q w⟩
    · rw [a5, B_w_at, if_neg (by decide), B_w_same]
    · rw [a6, B_w_same]
    · rw [a4, B_w_at, if_neg (by decide), B_w_at, if_neg (by decide)]
    · exact (((B_fr.refl _ h).w rfl).w rfl).trans a7
  · rw [if_neg (nI_ge (by omega) (by omega)), mo_fault_0 M, B_bind, mo_river_161_f (by omega) (M.fl k)]
    simp only [if_neg q]
    exact ⟨_, rfl, fun w => absurd w q, (B_fr.refl _ h).w rfl, fun _ => (B_fr.refl _ h).w rfl⟩
theorem mo_river_63_s (hn : n ≤ 80) (hs : ∀ j, j < n → sg j < 256) (hy2 : 2 ≤ y) (hy60 : y ≤ 60) : ∀ (d c p k n' : Nat) (v : Nat → Nat) (h : pH), c + d = 5 → d + 1 < n' → k ≤ n → p < 60 → (c = 0 → p = 0) → (0 < c → p = v (c - 1)) → M_rd h n 80 k sg none → (∀ i, i < c → h 60 i = nI (v i)) → ∃ h', mo_river_63 n' (nI y) (nI c) h = some (S_ra (S_rl sg n y d c p k v), h') ∧ ((S_rl sg n y d c p k v).2.1 = none → h' 51 1 = nI y ∧ h' 51 2 = nI (S_rl sg n y d c p k v).1 ∧ (∀ i, i < (S_rl sg n y d c p k v).1 → h' 53 i = nI ((S_rl sg n y d c p k v).2.2 i)) ∧ h' 51 35 = 0 ∧ h' 51 60 = h 51 60 + nI 1) ∧ B_fr E_rm h h' ∧ (¬ (S_rl sg n y d c p k v).2.1 = none → B_fr E_rmf h h') := by
  have e44 : px_c 44 = nI 44 := pc_n 44
  have emin : min n 80 = n := Nat.min_eq_left hn
  -- a sign that is a comma, or isn't
  have hcm : ∀ k, (S_nxt sg n k = px_c 44) = (k < n ∧ sg k = 44) := fun k => propext ⟨fun e => by
    unfold S_nxt at e
    rw [e44] at e
    by_cases q : k < n
    · have := hs k q
      rw [if_pos q] at e
      exact ⟨q, (nI_eq (by omega) (by omega)).mp e⟩
    · rw [if_neg q] at e
      exact absurd e (by decide), fun e => by
    unfold S_nxt
    rw [if_pos e.1, e.2, e44]⟩
  intro d
  induction d with
  | zero =>
    intro c p k n' v h hc hn' hk hp hp0 hp1 M e16
    obtain ⟨n', rfl⟩ : ∃ n'', n' = n'' + 2 := ⟨n' - 2, by omega⟩
    have hh := mo_here_s M hn (by decide) (by omega) hs
    rw [emin] at hh
    have hz : mo_river_63 (n' + 2) (nI y) (nI c) h = if k < n ∧ sg k = 44 then px_bind (mo_fault (nI k) h) (fun _ h6 => mo_river_63 (n' + 1) (nI y) (nI c) h6) else mo_river_142 (nI y) (nI c) h := by
      show px_bind (mo_fine h) _ = _
      rw [mo_fine_0 M, B_bind, if_neg (by decide), hh, B_bind, bc_5, if_pos (show nI c = nI 5 by rw [show c = 5 by omega]), M.2.2.2.1]
      simp only [hcm]
    rw [hz]
    unfold S_rl
    by_cases w : k < n ∧ sg k = 44
    · rw [if_pos w, mo_fault_0 M, B_bind, mo_river_63_f (by omega) (M.fl k)]
      have q : ¬ k = n := by omega
      simp only [if_neg q]
      exact ⟨_, rfl, (fun w => by cases w), (B_fr.refl _ h).w rfl, fun _ => (B_fr.refl _ h).w rfl⟩
    · rw [if_neg w]
      obtain ⟨h', a1, a2, a3, a4⟩ := mo_river_142_s (y := y) (v := v) (show c ≤ 5 by omega) M hk hn e16
      refine ⟨h', a1, fun q => a2 ?_, a3, fun q => a4 (fun w => q ?_)⟩
      · by_cases w : k = n
        · exact w
        · simp only [if_neg w] at q
          cases q
      · simp only [if_pos w]
  | succ d ih =>
    intro c p k n' v h hc hn' hk hp hp0 hp1 M e16
    obtain ⟨n', rfl⟩ : ∃ n'', n' = n'' + 1 := ⟨n' - 1, by omega⟩
    have hh := mo_here_s M hn (by decide) (by omega) hs
    rw [emin] at hh
    have M2 := M.to (k + 1)
    have e129 : ∀ x : Int32, x = nI (p + 1) → mo_river_129 (mo_river_63 n') (nI y) (nI c) x (nI c) (px_w h 51 18 (nI (k + 1))) = px_bind (mo_number_ (nI (p + 1)) (nI (y - 1)) (px_w h 51 18 (nI (k + 1)))) fun z1 h2 => mo_river_63 n' (nI y) (nI (c + 1)) (px_w h2 60 c z1) := fun x hx => by
      unfold mo_river_129
      rw [hx, bc_1, pk_sub (by omega), po_60 (by omega), nI_add, nI_clamp (show c < 2 ^ 31 by omega)]
      rfl
    have hz : mo_river_63 (n' + 1) (nI y) (nI c) h = if k < n ∧ sg k = 44 then px_bind (mo_number_ (nI (p + 1)) (nI (y - 1)) (px_w h 51 18 (nI (k + 1)))) (fun z1 h2 => mo_river_63 n' (nI y) (nI (c + 1)) (px_w h2 60 c z1)) else mo_river_142 (nI y) (nI c) h := by
      have hc5 : ¬ nI c = nI 5 := fun e => by
        have := (nI_eq (by omega) (by omega)).mp e
        omega
      show px_bind (mo_fine h) _ = _
      rw [mo_fine_0 M, B_bind, if_neg (by decide), hh, B_bind, bc_5, if_neg hc5, M.2.2.2.1, bc_1, nI_add]
      simp only [hcm]
      by_cases w : k < n ∧ sg k = 44
      · rw [if_pos w, if_pos w]
        by_cases c0 : c = 0
        · rw [if_pos (by rw [c0, nI_0]), e129 _ (by rw [hp0 c0])]
        · rw [if_neg (nI_ne0 (by omega) (by omega)), pk_sub (by omega), po_60 (by omega), B_ift, nI_clamp (by omega), B_w_cell _ _ _ (by decide), e16 (c - 1) (by omega), nI_add, e129 _ (by rw [hp1 (by omega)])]
      · rw [if_neg w, if_neg w]
    rw [hz]
    unfold S_rl
    by_cases w : k < n ∧ sg k = 44
    · rw [if_pos w, if_pos w]
      obtain ⟨z, h2, b1, b2, b3, b4⟩ := mo_number_s (lo := p + 1) (hi := y - 1) M2 hn (by decide) (by omega) hs (by omega) (by omega)
      rw [emin] at b2 b3
      rw [b1, B_bind]
      have F2 : B_fr E_rmf h h2 := B_fr.trans ((B_fr.refl _ h).w rfl) (b4.mono E_mx_rmf)
      have F3 : B_fr E_rmf h (px_w h2 60 c z) := F2.w rfl
      have M3 : M_rd (px_w h2 60 c z) n 80 (S_nm sg n (p + 1) (y - 1) (k + 1)).2.1 sg (S_nm sg n (p + 1) (y - 1) (k + 1)).2.2 := by
        obtain ⟨c1, c2, c3, c4, c5, cs⟩ := b3
        exact ⟨by rw [B_w_cell _ _ _ (by decide), c1], by rw [B_w_cell _ _ _ (by decide), c2], by rw [B_w_cell _ _ _ (by decide), c3], by rw [B_w_cell _ _ _ (by decide), c4], by rw [B_w_cell _ _ _ (by decide), c5], fun j hj => by rw [B_w_cell _ _ _ (by decide)]; exact cs j hj⟩
      cases hf : (S_nm sg n (p + 1) (y - 1) (k + 1)).2.2 with
      | some f =>
        rw [hf] at M3
        have hfn := S_nm_f (by omega) hf
        obtain ⟨n2, rfl⟩ : ∃ n'', n' = n'' + 1 := ⟨n' - 1, by omega⟩
        rw [mo_river_63_f (by omega) M3]
        exact ⟨_, rfl, (fun q => by cases q), F3.mono E_rmf_m, fun _ => F3⟩
      | none =>
        have hv := S_nm_ok hf
        have hle := S_nm_le (sg := sg) (lo := p + 1) (hi := y - 1) (show k + 1 ≤ n by omega)
        rw [hf] at M3
        have hzz := b2 hf
        rw [hzz] at M3 F3
        rw [hzz]
        generalize S_nm sg n (p + 1) (y - 1) (k + 1) = z0 at *
        obtain ⟨h3, a1, a2, a3, a4⟩ := ih (c + 1) z0.1 z0.2.1 n' (fun j => if j = c then z0.1 else v j) (px_w h2 60 c (nI z0.1)) (by omega) (by omega) (by omega) (by omega) (fun e => by omega) (fun _ => by simp) M3 (fun i hi => by
          rw [B_w_at]
          by_cases e : i = c
          · simp only [if_pos e]
          · simp only [if_neg e]
            rw [b4 60 i rfl, B_w_cell _ _ _ (by decide)]
            exact e16 i (by omega))
        refine ⟨h3, a1, fun q => ?_, (F3.mono E_rmf_m).trans a3, fun q => F3.trans (a4 q)⟩
        obtain ⟨u1, u2, u3, u4, u5⟩ := a2 q
        exact ⟨u1, u2, u3, u4, by rw [u5, F3 51 60 rfl]⟩
    · rw [if_neg w, if_neg w]
      obtain ⟨h', a1, a2, a3, a4⟩ := mo_river_142_s (y := y) (v := v) (show c ≤ 5 by omega) M hk hn e16
      refine ⟨h', a1, fun q => a2 ?_, a3, fun q => a4 (fun w2 => q ?_)⟩
      · by_cases w2 : k = n
        · exact w2
        · simp only [if_neg w2] at q
          cases q
      · simp only [if_pos w2]
end RIVER
