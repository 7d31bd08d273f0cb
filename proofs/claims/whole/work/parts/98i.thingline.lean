/-! Layer B: house: a thing's line -/
section TLINE
variable {h : pH} {n m k mo N c : Nat} {sg : Nat → Nat}
/-- behind 't', with c people: owner, words, press, whom; the place behind; the fault -/
abbrev pT : Type := Nat × Nat × Nat × Int32 × Nat × Option Nat
def S_no (f : Nat) : pT := (0, 0, 0, 0, 0, some f)
def S_ht3 (sg : Nat → Nat) (m c o w p k : Nat) : pT := if k < m ∧ sg k = 62 then (if S_lt sg m c (k + 1) = true ∧ ¬ sg (k + 1) - 97 = o then (o, w, p, nI (sg (k + 1) - 97), k + 2, none) else S_no (k + 1)) else (o, w, p, -1, k, none)
def S_ht2 (sg : Nat → Nat) (m c o w k : Nat) : pT := if k < m ∧ sg k = 42 then (if S_o1 sg m 0 9 (k + 1) = true then S_ht3 sg m c o w (sg (k + 1) - 48) (k + 2) else S_no (k + 1)) else S_no k
def S_ht (sg : Nat → Nat) (m c k : Nat) : pT := if S_lt sg m c k = true then (match (S_nm sg m 1 40 (k + 1)).2.2 with
  | some f => S_no f
  | none => S_ht2 sg m c (sg k - 97) (S_nm sg m 1 40 (k + 1)).1 (S_nm sg m 1 40 (k + 1)).2.1) else S_no k
def E_ht (N : Nat) : Nat → Nat → Bool := fun a k => match a with
  | 1 => [2, 3, 4].contains k
  | 3 => Nat.beq k 13
  | 7 => Nat.beq k N
  | 8 => Nat.beq k N
  | 9 => Nat.beq k N
  | 10 => Nat.beq k N
  | 11 => Nat.beq k N
  | 12 => Nat.beq k N
  | 13 => Nat.beq k N
  | _ => false
theorem E_tx_ht : ∀ a k, E_tx a k = true → E_ht N a k = true := fun a k e => by
  unfold E_tx at e
  split at e
  · exact e
  · cases e
/-- what a good thing's line left in the class -/
def C_ht (h : pH) (N : Nat) (t : pT) : Prop := h 7 N = nI t.2.1 ∧ h 8 N = nI t.2.1 ∧ h 9 N = nI t.2.2.1 ∧ h 10 N = nI t.1 ∧ h 11 N = t.2.2.2.1 ∧ h 12 N = 0 ∧ h 13 N = nI 1 <<< (nI t.1 &&& 31) ∧ h 3 13 = nI (N + 1)
theorem hs_readThing_106_s {o w p : Nat} {a : Int32} (hN : N < 10) (e13 : h 3 13 = nI N) (C : C_rd h n m k sg) : ∃ h', hs_readThing_106 (nI o) (nI w) (nI p) a h = some (nI 1, h') ∧ C_rd h' n m k sg ∧ C_ht h' N (o, w, p, a, k, none) ∧ B_fr (E_ht N) h h' := by
  have eh : hs_readThing_106 (nI o) (nI w) (nI p) a h = some (nI 1, px_w (px_w (px_w (px_w (px_w (px_w (px_w (px_w h 7 N (nI w)) 8 N (nI w)) 9 N (nI p)) 10 N (nI o)) 11 N a) 12 N 0) 13 N (nI 1 <<< (nI o &&& 31))) 3 13 (nI (N + 1))) := by
    unfold hs_readThing_106
    rw [e13, wp_7 hN, B_bind, B_w_cell _ _ _ (by decide), e13, wp_8 hN, B_bind, B_w_cell _ _ _ (by decide), B_w_cell _ _ _ (by decide), e13, wp_9 hN, B_bind, B_w_cell _ _ _ (by decide), B_w_cell _ _ _ (by decide), B_w_cell _ _ _ (by decide), e13, wp_10 hN, B_bind, B_w_cell _ _ _ (by decide), B_w_cell _ _ _ (by decide), B_w_cell _ _ _ (by decide), B_w_cell _ _ _ (by decide), e13, wp_11 hN, B_bind, B_w_cell _ _ _ (by decide), B_w_cell _ _ _ (by decide), B_w_cell _ _ _ (by decide), B_w_cell _ _ _ (by decide), B_w_cell _ _ _ (by decide), e13, wp_12 hN, B_bind, B_w_cell _ _ _ (by decide), B_w_cell _ _ _ (by decide), B_w_cell _ _ _ (by decide), B_w_cell _ _ _ (by decide), B_w_cell _ _ _ (by decide), B_w_cell _ _ _ (by decide), e13, wp_13 hN, B_bind, bc_1, bc_0, B_bz1]
    try dsimp only
    rw [B_w_cell _ _ _ (by decide), B_w_cell _ _ _ (by decide), B_w_cell _ _ _ (by decide), B_w_cell _ _ _ (by decide), B_w_cell _ _ _ (by decide), B_w_cell _ _ _ (by decide), B_w_cell _ _ _ (by decide), e13, nI_add]
  obtain ⟨c1, c2, c3, cs⟩ := C
  have e1 : ∀ a' : Nat, a' = 1 ∨ a' = 2 → (px_w (px_w (px_w (px_w (px_w (px_w (px_w (px_w h 7 N (nI w)) 8 N (nI w)) 9 N (nI p)) 10 N (nI o)) 11 N a) 12 N 0) 13 N (nI 1 <<< (nI o &&& 31))) 3 13 (nI (N + 1))) a' = h a' := fun a' ha => by
    rw [B_w_cell _ _ _ (by omega), B_w_cell _ _ _ (by omega), B_w_cell _ _ _ (by omega), B_w_cell _ _ _ (by omega), B_w_cell _ _ _ (by omega), B_w_cell _ _ _ (by omega), B_w_cell _ _ _ (by omega), B_w_cell _ _ _ (by omega)]
  refine ⟨_, eh, ⟨by rw [e1 1 (Or.inl rfl), c1], by rw [e1 1 (Or.inl rfl), c2], by rw [e1 1 (Or.inl rfl), c3], fun j hj => by rw [e1 2 (Or.inr rfl)]; exact cs j hj⟩, ⟨?_, ?_, ?_, ?_, ?_, ?_, ?_, B_w_same _ _ _ _⟩, ?_⟩
  · rw [B_w_cell _ _ _ (by decide), B_w_cell _ _ _ (by decide), B_w_cell _ _ _ (by decide), B_w_cell _ _ _ (by decide), B_w_cell _ _ _ (by decide), B_w_cell _ _ _ (by decide), B_w_cell _ _ _ (by decide), B_w_same]
  · rw [B_w_cell _ _ _ (by decide), B_w_cell _ _ _ (by decide), B_w_cell _ _ _ (by decide), B_w_cell _ _ _ (by decide), B_w_cell _ _ _ (by decide), B_w_cell _ _ _ (by decide), B_w_same]
  · rw [B_w_cell _ _ _ (by decide), B_w_cell _ _ _ (by decide), B_w_cell _ _ _ (by decide), B_w_cell _ _ _ (by decide), B_w_cell _ _ _ (by decide), B_w_same]
  · rw [B_w_cell _ _ _ (by decide), B_w_cell _ _ _ (by decide), B_w_cell _ _ _ (by decide), B_w_cell _ _ _ (by decide), B_w_same]
  · rw [B_w_cell _ _ _ (by decide), B_w_cell _ _ _ (by decide), B_w_cell _ _ _ (by decide), B_w_same]
  · rw [B_w_cell _ _ _ (by decide), B_w_cell _ _ _ (by decide), B_w_same]
  · rw [B_w_cell _ _ _ (by decide), B_w_same]
  · exact ((((((((B_fr.refl _ h).w (show E_ht N 7 N = true from Nat.beq_refl N)).w (show E_ht N 8 N = true from Nat.beq_refl N)).w (show E_ht N 9 N = true from Nat.beq_refl N)).w (show E_ht N 10 N = true from Nat.beq_refl N)).w (show E_ht N 11 N = true from Nat.beq_refl N)).w (show E_ht N 12 N = true from Nat.beq_refl N)).w (show E_ht N 13 N = true from Nat.beq_refl N)).w rfl
/-- what a thing's line comes to, in the class -/
def C_hz (h h' : pH) (r : Int32) (n m N : Nat) (sg : Nat → Nat) (t : pT) : Prop := r = (if t.2.2.2.2.2 = none then nI 1 else 0) ∧ (t.2.2.2.2.2 = none → C_rd h' n m t.2.2.2.2.1 sg ∧ t.2.2.2.2.1 ≤ m ∧ C_ht h' N t) ∧ (∀ f, t.2.2.2.2.2 = some f → h' 1 4 = nI f) ∧ B_fr (E_ht N) h h'
theorem C_hz.fr {h0 h' : pH} {r : Int32} {t : pT} (F : B_fr (E_ht N) h0 h) (z : C_hz h h' r n m N sg t) : C_hz h0 h' r n m N sg t := ⟨z.1, z.2.1, z.2.2.1, F.trans z.2.2.2⟩
theorem C_hz.no {h' : pH} {f : Nat} (e : h' 1 4 = nI f) (F : B_fr (E_ht N) h h') : C_hz h h' 0 n m N sg (S_no f) := ⟨rfl, (fun w => by cases w), (fun f' w => by cases w; exact e), F⟩
end TLINE
