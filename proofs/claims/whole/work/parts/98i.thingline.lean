/-! Layer B: house: a thing's line -/
section TLINE
variable {h : pH} {n m k mo N c : Nat} {sg : Nat → Nat}
/-- behind 't', with c people: owner, words, press, whom; the place behind; the fault -/
abbrev pT : Type := Nat × Nat × Nat × Int32 × Nat × Option Nat
def S_no (f : Nat) : pT := (0, 0, 0, 0, 0, some f)
def S_ht3 (sg : Nat → Nat) (m c o w p k : Nat) : pT := if k < m ∧ sg k = 62 then (if S_lt sg m c (k + 1) = true ∧ ¬ sg (k + 1) - 97 = o then (o, w, p, nI (sg (k + 1) - 97), k + 2, none) else S_no (k + 1)) else (o, w, p, -1, k, none)
def S_ht2 (sg : Nat → Nat) (m c o w k : Nat) : pT := if k < m ∧ sg k = 42 then (if S_o1 sg m 0 9 (k + 1) = true then S_ht3 sg m c o w (sg (k + 1) - 48) (k + 2) else S_no (k + 1)) else S_no k
def S_ht (sg : Nat → Nat) (m c k : Nat) : pT := if S_lt sg m c k = true then (match (S_nm sg m 1 40 (k + 1)).2.2 with
  | some f => S_no f
  | none => S_ht2 sg m c (sg k - 97) (S_nm sg m 1 40 (k + 1)).1 (S_nm sg m 1 40 (k + 1)).2.1) else S_no k
def E_ht (N : Nat) : Nat → Nat → Bool := fun a k => match a with
  | 1 => [2, 3, 4].contains k
  | 3 => Nat.beq k 13
  | 7 => Nat.beq k N
  | 8 => Nat.beq k N
  | 9 => Nat.beq k N
  | 10 => Nat.beq k N
  | 11 => Nat.beq k N
  | 12 => Nat.beq k N
  | 13 => Nat.beq k N
  | _ => false
theorem E_tx_ht : ∀ a k, E_tx a k = true → E_ht N a k = true := fun a k e => by
  unfold E_tx at e
  split at e
  · exact e
  · cases e
/-- what a good thing's line left in the class -/
def C_ht (h : pH) (N : Nat) (t : pT) : Prop := h 7 N = nI t.2.1 ∧ h 8 N = nI t.2.1 ∧ h 9 N = nI t.2.2.1 ∧ h 10 N = nI t.1 ∧ h 11 N = t.2.2.2.1 ∧ h 12 N = 0 ∧ h 13 N = nI 1 <<< (nI t.1 &&& 31) ∧ h 3 13 = nI (N + 1)
theorem hs_readThing_106_s {o w p : Nat} {a : Int32} (hN : N < 10) (e13 : h 3 13 = nI N) (C : C_rd h n m k sg) : ∃ h', hs_readThing_106 (nI o) (nI w) (nI p) a h = some (nI 1, h') ∧ C_rd h' n m k sg ∧ C_ht h' N (o, w, p, a, k, none) ∧ B_fr (E_ht N) h h' := by
  have eh : hs_readThing_106 (nI o) (nI w) (nI p) a h = some (nI 1, px_w (px_w (px_w (px_w (px_w (px_w (px_w (px_w h 7 N (nI w)) 8 N (nI w)) 9 N (nI p)) 10 N (nI o)) 11 N a) 12 N 0) 13 N (nI 1 <<< (nI o &&& 31))) 3 13 (nI (N + 1))) := by
    unfold hs_readThing_106
    rw [e13, wp_7 hN, B_bind, B_w_cell _ _ _ (by decide), e13, wp_8 hN, B_bind, B_w_cell _ _ _ (by decide), B_w_cell _ _ _ (by decide), e13, wp_9 hN, B_bind, B_w_cell _ _ _ (by decide), B_w_cell _ _ _ (by decide), B_w_cell _ _ _ (by decide), e13, wp_10 hN, B_bind, B_w_cell _ _ _ (by decide), B_w_cell _ _ _ (by decide), B_w_cell _ _ _ (by decide), B_w_cell _ _ _ (by decide), e13, wp_11 hN, B_bind, B_w_cell _ _ _ (by decide), B_w_cell _ _ _ (by decide), B_w_cell _ _ _ (by decide), B_w_cell _ _ _ (by decide), B_w_cell _ _ _ (by decide), e13, wp_12 hN, B_bind, B_w_cell _ _ _ (by decide), B_w_cell _ _ _ (by decide), B_w_cell _ _ _ (by decide), B_w_cell _ _ _ (by decide), B_w_cell _ _ _ (by decide), B_w_cell _ _ _ (by decide), e13, wp_13 hN, B_bind, bc_1, bc_0, B_bz1]
    try dsimp only
    rw [B_w_cell _ _ _ (by decide), B_w_cell _ _ _ (by decide), B_w_cell _ _ _ (by decide), B_w_cell _ _ _ (by decide), B_w_cell _ _ _ (by decide), B_w_cell _ _ _ (by decide), B_w_cell _ _ _ (by decide), e13, nI_add]
  obtain ⟨c1, c2, c3, cs⟩ := C
  have e1 : ∀ a' : Nat, a' = 1 ∨ a' = 2 → (px_w (px_w (px_w (px_w (px_w (px_w (px_w (px_w h 7 N (nI w)) 8 N (nI w)) 9 N (nI p)) 10 N (nI o)) 11 N a) 12 N 0) 13 N (nI 1 <<< (nI o &&& 31))) 3 13 (nI (N + 1))) a' = h a' := fun a' ha => by
    rw [B_w_cell _ _ _ (by omega), B_w_cell _ _ _ (by omega), B_w_cell _ _ _ (by omega), B_w_cell _ _ _ (by omega), B_w_cell _ _ _ (by omega), B_w_cell _ _ _ (by omega), B_w_cell _ _ _ (by omega), B_w_cell _ _ _ (by omega)]
  refine ⟨_, eh, ⟨by rw [e1 1 (Or.inl rfl), c1], by rw [e1 1 (Or.inl rfl), c2], by rw [e1 1 (Or.inl rfl), c3], fun j hj => by rw [e1 2 (Or.inr rfl)]; exact cs j hj⟩, ⟨?_, ?_, ?_, ?_, ?_, ?_, ?_, B_w_same _ _ _ _⟩, ?_⟩
  · rw [B_w_cell _ _ _ (by decide), B_w_cell _ _ _ (by decide), B_w_cell _ _ _ (by decide), B_w_cell _ _ _ (by decide), B_w_cell _ _ _ (by decide), B_w_cell _ _ _ (by decide), B_w_cell _ _ _ (by decide), B_w_same]
  · rw [B_w_cell _ _ _ (by decide), B_w_cell _ _ _ (by decide), B_w_cell _ _ _ (by decide), B_w_cell _ _ _ (by decide), B_w_cell _ _ _ (by decide), B_w_cell _ _ _ (by decide), B_w_same]
  · rw [B_w_cell _ _ _ (by decide), B_w_cell _ _ _ (by decide), B_w_cell _ _ _ (by decide), B_w_cell _ _ _ (by decide), B_w_cell _ _ _ (by decide), B_w_same]
  · rw [B_w_cell _ _ _ (by decide), B_w_cell _ _ _ (by decide), B_w_cell _ _ _ (by decide), B_w_cell _ _ _ (by decide), B_w_same]
  · rw [B_w_cell _ _ _ (by decide), B_w_cell _ _ _ (by decide), B_w_cell _ _ _ (by decide), B_w_same]
  · rw [B_w_cell _ _ _ (by decide), B_w_cell _ _ _ (by decide), B_w_same]
  · rw [B_w_cell _ _ _ (by decide), B_w_same]
  · exact ((((((((B_fr.refl _ h).w (show E_ht N 7 N = true from Nat.beq_refl N)).w (show E_ht N 8 N = true from Nat.beq_refl N)).w (show E_ht N 9 N = true from Nat.beq_refl N)).w (show E_ht N 10 N = true from Nat.beq_refl N)).w (show E_ht N 11 N = true from Nat.beq_refl N)).w (show E_ht N 12 N = true from Nat.beq_refl N)).w (show E_ht N 13 N = true from Nat.beq_refl N)).w rfl
/-- what a thing's line comes to, in the class -/
def C_hz (h h' : pH) (r : Int32) (n m N : Nat) (sg : Nat → Nat) (t : pT) : Prop := r = (if t.2.2.2.2.2 = none then nI 1 else 0) ∧ (t.2.2.2.2.2 = none → C_rd h' n m t.2.2.2.2.1 sg ∧ t.2.2.2.2.1 ≤ m ∧ C_ht h' N t) ∧ (∀ f, t.2.2.2.2.2 = some f → h' 1 4 = nI f) ∧ B_fr (E_ht N) h h'
theorem C_hz.fr {h0 h' : pH} {r : Int32} {t : pT} (F : B_fr (E_ht N) h0 h) (z : C_hz h h' r n m N sg t) : C_hz h0 h' r n m N sg t := ⟨z.1, z.2.1, z.2.2.1, F.trans z.2.2.2⟩
theorem C_hz.no {h' : pH} {f : Nat} (e : h' 1 4 = nI f) (F : B_fr (E_ht N) h h') : C_hz h h' 0 n m N sg (S_no f) := ⟨rfl, (fun w => by cases w), (fun f' w => by cases w; exact e), F⟩
theorem hs_readThing_28_s {o w : Nat} (hN : N < 10) (hc : c ≤ 6) (ho : o < 2 ^ 31) (hw : w < 2 ^ 31) (e12 : h 3 12 = nI c) (e13 : h 3 13 = nI N) (C : C_rd h n m k sg) (hm : m ≤ n) (hn : n ≤ 80) (hk : k ≤ m) (hs : ∀ j, j < n → sg j < 256) : ∃ r h', hs_readThing_28 (nI o) (nI w) h = some (r, h') ∧ C_hz h h' r n m N sg (S_ht2 sg m c o w k) := by
  have e42 : px_c 42 = nI 42 := pc_n 42
  have e62 : px_c 62 = nI 62 := pc_n 62
  unfold hs_readThing_28 hs_readThing_43 S_ht2
  rw [bc_m1, if_neg (fun w => by rw [bn_eqm hw] at w; exact w), e42, tx_take_m C hm hn hk hs (z := 42) (by omega), bc_0, bc_1, bc_9]
  by_cases q : k < m ∧ sg k = 42
  · rw [if_pos q, if_pos q, B_bind, if_neg (by decide)]
    have C2 := C.to (k + 1)
    have F2 : B_fr (E_ht N) h (px_w h 1 2 (nI (k + 1))) := (B_fr.refl _ h).w rfl
    obtain ⟨h3, d1, d2, d3, d4⟩ := tx_num1_s (lo := 0) (hi := 9) C2 hm hn (by omega) hs (by omega) (by omega)
    have F3 : B_fr (E_ht N) h h3 := F2.trans (d4.mono E_tx_ht)
    rw [nI_0] at d1
    rw [d1, B_bind, B_bz0]
    cases hq : S_o1 sg m 0 9 (k + 1) with
    | false =>
      simp only [Bool.false_eq_true, if_false, if_true]
      exact ⟨_, _, rfl, C_hz.no (d3 hq) F3⟩
    | true =>
      have hlt := S_o1_lt hq
      simp only [if_true]
      rw [if_neg (fun w => by rw [bn_eqm (by omega)] at w; exact w), e62, tx_meet_m (d2 hq) hm hn (by omega) hs (z := 62) (by omega)]
      have g12 : h3 3 12 = nI c := by rw [d4 3 12 rfl, B_w_cell _ _ _ (by decide), e12]
      have g13 : h3 3 13 = nI N := by rw [d4 3 13 rfl, B_w_cell _ _ _ (by decide), e13]
      unfold S_ht3
      by_cases z : k + 2 < m ∧ sg (k + 2) = 62
      · rw [if_pos z, if_pos z, B_bind, if_neg (by decide)]
        have C4 := (d2 hq).to (k + 2 + 1)
        have F4 : B_fr (E_ht N) h (px_w h3 1 2 (nI (k + 2 + 1))) := F3.w rfl
        rw [B_w_cell _ _ _ (show (3 : Nat) ≠ 1 by decide), g12, bc_97, tx_letter_s (by omega) C4 hm hn (by omega) hs]
        cases hl : S_lt sg m c (k + 2 + 1) with
        | false =>
          simp only [Bool.false_eq_true, if_false, false_and]
          rw [B_bind, if_pos rfl, B_bz0]
          exact ⟨_, _, rfl, C_hz.no (B_w_same _ _ _ _) (F4.w rfl)⟩
        | true =>
          have hll := S_lt_lt hl
          simp only [if_true, true_and]
          rw [B_bind, if_neg (fun w => by rw [bn_eqm (by omega)] at w; exact w)]
          by_cases y : sg (k + 2 + 1) - 97 = o
          · rw [if_pos (by rw [y]), if_neg (fun w => w y)]
            unfold tx_refuseLast
            dsimp only
            rw [B_w_same, bc_1, pk_sub (by omega), Nat.add_sub_cancel, bc_0, B_bz0, B_bind, B_bz0]
            exact ⟨_, _, rfl, C_hz.no (B_w_same _ _ _ _) ((F4.w rfl).w rfl)⟩
          · rw [if_neg (fun e => y ((nI_eq (by omega) ho).mp e)), if_pos y]
            obtain ⟨h5, u1, u2, u3, u4⟩ := hs_readThing_106_s (h := px_w (px_w h3 1 2 (nI (k + 2 + 1))) 1 2 (nI (k + 2 + 1 + 1))) (o := o) (w := w) (p := sg (k + 1) - 48) (a := nI (sg (k + 2 + 1) - 97)) hN (by rw [B_w_cell _ _ _ (by decide), B_w_cell _ _ _ (by decide), g13]) (C4.to (k + 2 + 1 + 1))
            exact ⟨_, _, u1, rfl, fun _ => ⟨u2, by show k + 2 + 2 ≤ m; omega, u3⟩, (fun f e => by cases e), (F4.w rfl).trans u4⟩
      · rw [if_neg z, if_neg z, B_bind, if_pos rfl]
        obtain ⟨h5, u1, u2, u3, u4⟩ := hs_readThing_106_s (h := h3) (o := o) (w := w) (p := sg (k + 1) - 48) (a := -1) hN g13 (d2 hq)
        exact ⟨_, _, u1, rfl, fun _ => ⟨u2, by show k + 2 ≤ m; omega, u3⟩, (fun f e => by cases e), F3.trans u4⟩
  · rw [if_neg q, if_neg q, B_bind, if_pos rfl, B_bz0]
    exact ⟨_, _, rfl, C_hz.no (B_w_same _ _ _ _) ((B_fr.refl _ h).w rfl)⟩
theorem hs_readThing_s (hN : N < 10) (hc : c ≤ 6) (e12 : h 3 12 = nI c) (e13 : h 3 13 = nI N) (C : C_rd h n m k sg) (hm : m ≤ n) (hn : n ≤ 80) (hk : k ≤ m) (hs : ∀ j, j < n → sg j < 256) : ∃ r h', hs_readThing h = some (r, h') ∧ C_hz h h' r n m N sg (S_ht sg m c k) := by
  have e28 : ∀ x hh, hs_readThing_28 x (-1) hh = some (0, hh) := fun x hh => by
    unfold hs_readThing_28 hs_readThing_43
    rw [bc_m1, if_pos rfl, bc_0, B_bz0]
  unfold hs_readThing S_ht
  rw [e12, bc_97, bc_m1, bc_2, bc_1, bc_40, tx_letter_s (by omega) C hm hn hk hs]
  cases hl : S_lt sg m c k with
  | false =>
    simp only [Bool.false_eq_true, if_false]
    rw [B_bind, if_pos rfl, e28]
    exact ⟨_, _, rfl, C_hz.no (B_w_same _ _ _ _) ((B_fr.refl _ h).w rfl)⟩
  | true =>
    have hll := S_lt_lt hl
    simp only [if_true]
    rw [B_bind, if_neg (fun w => by rw [bn_eqm (by omega)] at w; exact w)]
    have F2 : B_fr (E_ht N) h (px_w h 1 2 (nI (k + 1))) := (B_fr.refl _ h).w rfl
    obtain ⟨h2, b1, b2, b3, b4⟩ := tx_number_s (lo := 1) (hi := 40) (C.to (k + 1)) hm hn (by omega) hs (by omega) (by omega)
    have F3 : B_fr (E_ht N) h h2 := F2.trans (b4.mono E_tx_ht)
    rw [b1, B_bind]
    cases hf : (S_nm sg m 1 40 (k + 1)).2.2 with
    | some f =>
      have hn1 : ¬ (some f : Option Nat) = none := fun w => by cases w
      rw [if_neg hn1, e28]
      exact ⟨_, _, rfl, C_hz.no (b3 f hf) F3⟩
    | none =>
      have hv := S_nm_ok hf
      have hle := (S_nm_le (sg := sg) (lo := 1) (hi := 40) (show k + 1 ≤ m by omega)).2
      rw [if_pos rfl]
      generalize S_nm sg m 1 40 (k + 1) = z at *
      obtain ⟨r, h4, u1, u2⟩ := hs_readThing_28_s (h := h2) (o := sg k - 97) (w := z.1) hN hc (by omega) (by omega) (by rw [b4 3 12 rfl, B_w_cell _ _ _ (by decide), e12]) (by rw [b4 3 13 rfl, B_w_cell _ _ _ (by decide), e13]) b2 hm hn hle hs
      exact ⟨r, h4, u1, u2.fr F3⟩
/-! the reference -/
section MTLINE
variable {q : Nat}
def E_mt (q : Nat) : Nat → Nat → Bool := fun a k => match a with
  | 51 => [18, 19, 24].contains k
  | 62 => Nat.ble (4 * q) k && Nat.ble k (4 * q + 3)
  | _ => false
theorem E_mx_mt : ∀ a k, E_mx a k = true → E_mt q a k = true := fun a k e => by
  unfold E_mx at e
  split at e
  · have : k = 18 ∨ k = 19 := by simpa using e
    rcases this with rfl | rfl <;> rfl
  · cases e
theorem E_mt_62 {x : Nat} (h1 : 4 * q ≤ x) (h2 : x ≤ 4 * q + 3) : E_mt q 62 x = true := by
  show (Nat.ble (4 * q) x && Nat.ble x (4 * q + 3)) = true
  rw [Nat.ble_eq.mpr h1, Nat.ble_eq.mpr h2]
  rfl
theorem M_rd.w62 {f : Option Nat} (M : M_rd h n mo k sg f) (x : Nat) (v : Int32) : M_rd (px_w h 62 x v) n mo k sg f := M.cell (fun j _ => by rw [B_w_cell _ _ _ (by decide)]) (B_w_cell _ _ _ (by decide))
theorem mo_readLine_229_s {v : Int32} {f : Option Nat} {x : Nat} (hx : x < 40) (e24 : h 51 24 = nI q) (hq : q < 10) (M : M_rd h n mo k sg f) : mo_readLine_229 v (nI x) h = some (0, px_w (px_w h 62 x v) 51 24 (nI (q + 1))) ∧ M_rd (px_w (px_w h 62 x v) 51 24 (nI (q + 1))) n mo k sg f := by
  refine ⟨?_, M.cell (fun j hj => by rw [B_w_at, if_neg (by omega), B_w_cell _ _ _ (by decide)]) (by rw [B_w_cell _ _ _ (by decide), B_w_cell _ _ _ (by decide)])⟩
  unfold mo_readLine_229 mo_readLine_251
  rw [po_62 hx, B_ift, nI_clamp (by omega), bc_1]
  try dsimp only
  rw [B_w_cell _ _ _ (by decide), e24, nI_add]
/-- what a thing's line comes to, in the reference -/
def M_hz (h h' : pH) (n mo q : Nat) (sg : Nat → Nat) (t : pT) : Prop := (∃ k2, M_rd h' n mo k2 sg t.2.2.2.2.2 ∧ (t.2.2.2.2.2 = none → k2 = t.2.2.2.2.1)) ∧ (t.2.2.2.2.2 = none → h' 62 (4 * q) = nI t.1 ∧ h' 62 (4 * q + 1) = nI t.2.1 ∧ h' 62 (4 * q + 2) = nI t.2.2.1 ∧ h' 62 (4 * q + 3) = t.2.2.2.1 ∧ h' 51 24 = nI (q + 1)) ∧ B_fr (E_mt q) h h'
theorem M_hz.fr {h0 h' : pH} {t : pT} (F : B_fr (E_mt q) h0 h) (z : M_hz h h' n mo q sg t) : M_hz h0 h' n mo q sg t := ⟨z.1, z.2.1, F.trans z.2.2⟩
/-- a fault stays -/
theorem mo_readLine_196_f {x : Nat} {x2 : Int32} (hx : x < 2 ^ 31) (hq : q < 10) (e24 : h 51 24 = nI q) (M : M_rd h n mo k sg (some x)) : ∃ h', mo_readLine_196 (nI (4 * q)) x2 h = some (0, h') ∧ M_hz h h' n mo q sg (S_no x) := by
  obtain ⟨a1, a2⟩ := mo_readLine_229_s (v := -1) (x := 4 * q + 3) (by omega) e24 hq M
  refine ⟨_, ?_, ⟨k, a2, fun w => by cases w⟩, (fun w => by cases w), ((B_fr.refl _ h).w (E_mt_62 (by omega) (by omega))).w rfl⟩
  unfold mo_readLine_196
  rw [mo_passes_1 hx M, B_bind, if_pos rfl, bc_m1, bc_3, nI_add, a1]
theorem mo_readLine_196_s {o w p : Nat} (hq : q < 10) (hc : c ≤ 6) (ho : o < 2 ^ 31) (e24 : h 51 24 = nI q) (g0 : h 62 (4 * q) = nI o) (g1 : h 62 (4 * q + 1) = nI w) (g2 : h 62 (4 * q + 2) = nI p) (M : M_rd h n mo k sg none) (hn : n ≤ 80) (hmo : mo < 2 ^ 31) (hk : k ≤ min n mo) (hs : ∀ j, j < n → sg j < 256) : ∃ h', mo_readLine_196 (nI (4 * q)) (nI c) h = some (0, h') ∧ M_hz h h' n mo q sg (S_ht3 sg (min n mo) c o w p k) := by
  have e62 : px_c 62 = nI 62 := pc_n 62
  unfold mo_readLine_196 S_ht3
  rw [e62, mo_passes_0 M hn hmo (by omega) hs (z := 62) (by omega), bc_3, bc_97, bc_m1, nI_add]
  by_cases z : k < min n mo ∧ sg k = 62
  · rw [if_pos z, if_pos z, B_bind, if_neg (by decide), po_62 (by omega), B_ift, nI_clamp (by omega), B_w_cell _ _ _ (by decide), g0, mo_letter_0 (by omega) (nI o) (M.to (k + 1)) hn hmo (by omega) hs]
    by_cases y : S_lt sg (min n mo) c (k + 1) = true ∧ ¬ sg (k + 1) - 97 = o
    · have hll := S_lt_lt y.1
      have y2 : S_lt sg (min n mo) c (k + 1) = true ∧ ¬ nI (sg (k + 1) - 97) = nI o := ⟨y.1, fun e => y.2 ((nI_eq (by omega) ho).mp e)⟩
      rw [if_pos y, if_pos y2, B_bind]
      obtain ⟨a1, a2⟩ := mo_readLine_229_s (h := px_w (px_w h 51 18 (nI (k + 1))) 51 18 (nI (k + 1 + 1))) (v := nI (sg (k + 1) - 97)) (x := 4 * q + 3) (by omega) (by rw [B_w_at, if_neg (by decide), B_w_at, if_neg (by decide), e24]) hq ((M.to (k + 1)).to (k + 1 + 1))
      refine ⟨_, a1, ⟨_, a2, fun _ => rfl⟩, fun _ => ⟨?_, ?_, ?_, ?_, B_w_same _ _ _ _⟩, ((((B_fr.refl _ h).w rfl).w rfl).w (E_mt_62 (by omega) (by omega))).w rfl⟩
      · rw [B_w_cell _ _ _ (by decide), B_w_at, if_neg (by omega), B_w_cell _ _ _ (by decide), B_w_cell _ _ _ (by decide), g0]
      · rw [B_w_cell _ _ _ (by decide), B_w_at, if_neg (by omega), B_w_cell _ _ _ (by decide), B_w_cell _ _ _ (by decide), g1]
      · rw [B_w_cell _ _ _ (by decide), B_w_at, if_neg (by omega), B_w_cell _ _ _ (by decide), B_w_cell _ _ _ (by decide), g2]
      · rw [B_w_cell _ _ _ (by decide), B_w_same]
    · have y2 : ¬ (S_lt sg (min n mo) c (k + 1) = true ∧ ¬ nI (sg (k + 1) - 97) = nI o) := fun e => y ⟨e.1, fun e2 => e.2 (by rw [e2])⟩
      rw [if_neg y, if_neg y2, B_bind]
      obtain ⟨a1, a2⟩ := mo_readLine_229_s (h := px_w (px_w h 51 18 (nI (k + 1))) 51 19 (nI (k + 1))) (v := 0) (x := 4 * q + 3) (by omega) (by rw [B_w_at, if_neg (by decide), B_w_at, if_neg (by decide), e24]) hq ((M.to (k + 1)).fl (k + 1))
      exact ⟨_, a1, ⟨_, a2, fun w => by cases w⟩, (fun w => by cases w), ((((B_fr.refl _ h).w rfl).w rfl).w (E_mt_62 (by omega) (by omega))).w rfl⟩
  · rw [if_neg z, if_neg z, B_bind, if_pos rfl]
    obtain ⟨a1, a2⟩ := mo_readLine_229_s (v := -1) (x := 4 * q + 3) (by omega) e24 hq M
    refine ⟨_, a1, ⟨_, a2, fun _ => rfl⟩, fun _ => ⟨?_, ?_, ?_, ?_, B_w_same _ _ _ _⟩, ((B_fr.refl _ h).w (E_mt_62 (by omega) (by omega))).w rfl⟩
    · rw [B_w_cell _ _ _ (by decide), B_w_at, if_neg (by omega), g0]
    · rw [B_w_cell _ _ _ (by decide), B_w_at, if_neg (by omega), g1]
    · rw [B_w_cell _ _ _ (by decide), B_w_at, if_neg (by omega), g2]
    · rw [B_w_cell _ _ _ (by decide), B_w_same]
/-- from the star on -/
noncomputable def M_t2 (q c : Nat) (h : pH) : pR := px_bind (mo_need (nI 42) h) fun _ h5 => px_bind (mo_digit 0 (nI 9) h5) fun z6 h7 => mo_readLine_196 (nI (4 * q)) (nI c) (px_w h7 62 (4 * q + 2) z6)
theorem M_t2_f {x : Nat} (hx : x < 2 ^ 31) (hq : q < 10) (e24 : h 51 24 = nI q) (M : M_rd h n mo k sg (some x)) : ∃ h', M_t2 q c h = some (0, h') ∧ M_hz h h' n mo q sg (S_no x) := by
  obtain ⟨h', a1, a2⟩ := mo_readLine_196_f (h := px_w h 62 (4 * q + 2) 0) (x2 := nI c) hx hq (by rw [B_w_cell _ _ _ (by decide), e24]) (M.w62 (4 * q + 2) 0)
  refine ⟨h', ?_, a2.fr ((B_fr.refl _ h).w (E_mt_62 (by omega) (by omega)))⟩
  unfold M_t2
  rw [mo_need_1 hx M, B_bind, mo_digit_1 hx M, B_bind, a1]
theorem M_t2_s {o w : Nat} (hq : q < 10) (hc : c ≤ 6) (ho : o < 2 ^ 31) (e24 : h 51 24 = nI q) (g0 : h 62 (4 * q) = nI o) (g1 : h 62 (4 * q + 1) = nI w) (M : M_rd h n mo k sg none) (hn : n ≤ 80) (hmo : mo < 2 ^ 31) (hk : k ≤ min n mo) (hs : ∀ j, j < n → sg j < 256) : ∃ h', M_t2 q c h = some (0, h') ∧ M_hz h h' n mo q sg (S_ht2 sg (min n mo) c o w k) := by
  unfold M_t2 S_ht2
  rw [mo_need_0 M hn hmo (by omega) hs (z := 42) (by omega)]
  by_cases z : k < min n mo ∧ sg k = 42
  · rw [if_pos z, if_pos z, B_bind]
    have M2 := M.to (k + 1)
    have hd := mo_digit_lh (lo := 0) (hi := 9) (by omega) (by omega) M2 hn hmo (by omega) hs
    rw [nI_0] at hd
    rw [hd]
    cases y : S_o1 sg (min n mo) 0 9 (k + 1) with
    | false =>
      simp only [Bool.false_eq_true, if_false]
      rw [B_bind]
      obtain ⟨h', a1, a2⟩ := mo_readLine_196_f (h := px_w (px_w (px_w h 51 18 (nI (k + 1))) 51 19 (nI (k + 1))) 62 (4 * q + 2) 0) (x2 := nI c) (show k + 1 < 2 ^ 31 by omega) hq (by rw [B_w_cell _ _ _ (by decide), B_w_at, if_neg (by decide), B_w_at, if_neg (by decide), e24]) ((M2.fl (k + 1)).w62 (4 * q + 2) 0)
      exact ⟨h', a1, a2.fr ((((B_fr.refl _ h).w rfl).w rfl).w (E_mt_62 (by omega) (by omega)))⟩
    | true =>
      have hlt := S_o1_lt y
      simp only [if_true]
      rw [B_bind]
      obtain ⟨h', a1, a2⟩ := mo_readLine_196_s (h := px_w (px_w (px_w h 51 18 (nI (k + 1))) 51 18 (nI (k + 1 + 1))) 62 (4 * q + 2) (nI (sg (k + 1) - 48))) (o := o) (w := w) (p := sg (k + 1) - 48) (c := c) hq hc ho (by rw [B_w_cell _ _ _ (by decide), B_w_at, if_neg (by decide), B_w_at, if_neg (by decide), e24]) (by rw [B_w_at, if_neg (by omega), B_w_cell _ _ _ (by decide), B_w_cell _ _ _ (by decide), g0]) (by rw [B_w_at, if_neg (by omega), B_w_cell _ _ _ (by decide), B_w_cell _ _ _ (by decide), g1]) (B_w_same _ _ _ _) ((M2.to (k + 1 + 1)).w62 (4 * q + 2) _) hn hmo (by omega) hs
      exact ⟨h', a1, a2.fr ((((B_fr.refl _ h).w rfl).w rfl).w (E_mt_62 (by omega) (by omega)))⟩
  · rw [if_neg z, if_neg z, B_bind]
    have M2 := M.fl k
    rw [mo_digit_1 (by omega) M2, B_bind]
    obtain ⟨h', a1, a2⟩ := mo_readLine_196_f (h := px_w (px_w h 51 19 (nI k)) 62 (4 * q + 2) 0) (x2 := nI c) (show k < 2 ^ 31 by omega) hq (by rw [B_w_cell _ _ _ (by decide), B_w_at, if_neg (by decide), e24]) (M2.w62 (4 * q + 2) 0)
    exact ⟨h', a1, a2.fr (((B_fr.refl _ h).w rfl).w (E_mt_62 (by omega) (by omega)))⟩
theorem mo_readLine_160_e (hq : q < 10) : mo_readLine_160 (nI (4 * q)) (nI c) h = px_bind (mo_number_ (nI 1) (nI 40) h) fun z1 h2 => M_t2 q c (px_w h2 62 (4 * q + 1) z1) := by
  have e42 : px_c 42 = nI 42 := pc_n 42
  unfold mo_readLine_160 M_t2
  rw [bc_1, bc_40, bc_2, bc_0, bc_9, nI_add, nI_add, po_62 (by omega), po_62 (by omega), nI_clamp (by omega), nI_clamp (by omega), e42]
  rfl
theorem mo_thing_line {P q0 T : Nat} (hq : q < 10) (hc : P + q0 ≤ 6) (eP : h 51 4 = nI P) (e23 : h 51 23 = nI q0) (eT : h 51 6 = nI T) (hT : T + q < 10) (e24 : h 51 24 = nI q) (M : M_rd h n mo k sg none) (hn : n ≤ 80) (hmo : mo < 2 ^ 31) (hk : k < min n mo) (hs : ∀ j, j < n → sg j < 256) (hp : sg k = 116) : ∃ h', mo_readLine h = some (0, h') ∧ M_hz h h' n mo q sg (S_ht sg (min n mo) (P + q0) (k + 1)) := by
  have e112 : px_c 112 = nI 112 := bc_112
  have hh := mo_here_s M hn hmo (by omega) hs
  have ex : S_nxt sg (min n mo) k = nI 116 := by
    unfold S_nxt
    rw [if_pos hk, hp]
  have M1 := M.to (k + 1)
  have F1 : B_fr (E_mt q) h (px_w h 51 18 (nI (k + 1))) := (B_fr.refl _ h).w rfl
  have hl := mo_letter_0 (c := P + q0) (by omega) (-1) M1 hn hmo (by omega) hs
  have hz : mo_readLine h = px_bind (mo_letter (nI 97) (nI (P + q0)) (-1) (px_w h 51 18 (nI (k + 1)))) fun z6 h7 => mo_readLine_160 (nI (4 * q)) (nI (P + q0)) (px_w h7 62 (4 * q) z6) := by
    unfold mo_readLine mo_readLine_96
    rw [hh, B_bind, ex, e112, if_neg (by decide), hh, B_bind, ex, bc_116, if_pos rfl, eT, e24, nI_add, bc_10, if_neg (nI_ge (by omega) (by omega)), eP, e23, nI_add, bc_4, pk_mul, bc_97, bc_m1, M.2.2.2.1, bc_1, nI_add]
    dsimp only
    rw [po_62 (by omega), nI_clamp (by omega)]
    rfl
  rw [hz, hl]
  unfold S_ht
  cases hlt : S_lt sg (min n mo) (P + q0) (k + 1) with
  | false =>
    simp only [Bool.false_eq_true, if_false, false_and]
    have M2 := (M1.fl (k + 1)).w62 (4 * q) 0
    rw [B_bind, mo_readLine_160_e hq, mo_number_1 (by omega) M2, B_bind]
    obtain ⟨h', a1, a2⟩ := M_t2_f (c := P + q0) (show k + 1 < 2 ^ 31 by omega) hq (by rw [B_w_cell _ _ _ (by decide), B_w_cell _ _ _ (by decide), B_w_at, if_neg (by decide), B_w_at, if_neg (by decide), e24]) (M2.w62 (4 * q + 1) 0)
    exact ⟨h', a1, a2.fr (((F1.w rfl).w (E_mt_62 (by omega) (by omega))).w (E_mt_62 (by omega) (by omega)))⟩
  | true =>
    have hll := S_lt_lt hlt
    have hne : ¬ nI (sg (k + 1) - 97) = -1 := fun w => by
      rw [bn_eqm (by omega)] at w
      exact w
    rw [if_pos ⟨rfl, hne⟩, if_pos rfl, B_bind, mo_readLine_160_e hq]
    have M2 := (M1.to (k + 1 + 1)).w62 (4 * q) (nI (sg (k + 1) - 97))
    obtain ⟨z, h4, d1, d2, d3, d4⟩ := mo_number_s (lo := 1) (hi := 40) M2 hn hmo (by omega) hs (by omega) (by omega)
    rw [d1, B_bind]
    have F4 : B_fr (E_mt q) h (px_w h4 62 (4 * q + 1) z) := (((F1.w rfl).w (E_mt_62 (by omega) (by omega))).trans (d4.mono E_mx_mt)).w (E_mt_62 (by omega) (by omega))
    have g24 : (px_w h4 62 (4 * q + 1) z) 51 24 = nI q := by rw [B_w_cell _ _ _ (by decide), d4 51 24 rfl, B_w_cell _ _ _ (by decide), B_w_at, if_neg (by decide), B_w_at, if_neg (by decide), e24]
    have g0 : (px_w h4 62 (4 * q + 1) z) 62 (4 * q) = nI (sg (k + 1) - 97) := by rw [B_w_at, if_neg (by omega), d4 62 _ rfl, B_w_same]
    cases hf : (S_nm sg (min n mo) 1 40 (k + 1 + 1)).2.2 with
    | some f =>
      have hfn := S_nm_f (show k + 1 + 1 ≤ min n mo by omega) hf
      rw [hf] at d3
      obtain ⟨h', a1, a2⟩ := M_t2_f (c := P + q0) (show f < 2 ^ 31 by omega) hq g24 (d3.w62 (4 * q + 1) z)
      exact ⟨h', a1, a2.fr F4⟩
    | none =>
      have hle := (S_nm_le (sg := sg) (lo := 1) (hi := 40) (show k + 1 + 1 ≤ min n mo by omega)).2
      have hzz := d2 hf
      rw [hf] at d3
      rw [hzz] at F4 g24 g0
      rw [hzz]
      generalize S_nm sg (min n mo) 1 40 (k + 1 + 1) = z0 at *
      obtain ⟨h', a1, a2⟩ := M_t2_s (c := P + q0) (o := sg (k + 1) - 97) (w := z0.1) hq hc (by omega) g24 g0 (B_w_same _ _ _ _) (d3.w62 (4 * q + 1) _) hn hmo hle hs
      exact ⟨h', a1, a2.fr F4⟩
end MTLINE
end TLINE
