/-! Layer B: house: the lines, both sides -/
abbrev hA := Nat × Nat × (Nat → Nat × Nat) × (Nat → pT)
/-- one line, of so many people and things before it -/
def S_hs (sg : Nat → Nat) (m k : Nat) (a : hA) : hA × Nat × Option Nat := if a.1 < 6 ∧ k < m ∧ sg k = 112 then (match (S_hp sg m (k + 1)).2.2.2 with
  | some f => (a, 0, some f)
  | none => (⟨a.1 + 1, a.2.1, fun p => if p = a.1 then ((S_hp sg m (k + 1)).1, (S_hp sg m (k + 1)).2.1) else a.2.2.1 p, a.2.2.2⟩, (S_hp sg m (k + 1)).2.2.1, none)) else if a.2.1 < 10 ∧ k < m ∧ sg k = 116 then (match (S_ht sg m a.1 (k + 1)).2.2.2.2.2 with
  | some f => (a, 0, some f)
  | none => (⟨a.1, a.2.1 + 1, a.2.2.1, fun t => if t = a.2.1 then S_ht sg m a.1 (k + 1) else a.2.2.2 t⟩, (S_ht sg m a.1 (k + 1)).2.2.2.2.1, none)) else (a, 0, some k)
def S_hl (sg : Nat → Nat) (n m : Nat) : Nat → Nat → Nat → hA → hA × Nat × Option Nat
  | 0, x, _, a => (a, x, some 0)
  | d + 1, x, k, a => match (S_hs sg m k a).2.2 with
    | some f => (a, x, some f)
    | none => if (S_hs sg m k a).2.1 < m ∧ sg (S_hs sg m k a).2.1 = 59 then S_hl sg n m d (x + 1) ((S_hs sg m k a).2.1 + 1) (S_hs sg m k a).1 else ((S_hs sg m k a).1, x, if (S_hs sg m k a).2.1 = n then none else some (S_hs sg m k a).2.1)
/-- what has been read can live in a house -/
def H_ok (P T : Nat) (a : hA) : Prop := P ≤ a.1 ∧ a.1 ≤ 6 ∧ T ≤ a.2.1 ∧ a.2.1 ≤ 10 ∧ (∀ p, P ≤ p → p < a.1 → 1 ≤ (a.2.2.1 p).1 ∧ (a.2.2.1 p).1 ≤ 99 ∧ (a.2.2.1 p).2 < 2) ∧ ∀ t, T ≤ t → t < a.2.1 → (a.2.2.2 t).1 < a.1 ∧ (a.2.2.2 t).2.1 ≤ 40 ∧ ((a.2.2.2 t).2.2.2.1 = -1 ∨ B_lt (a.2.2.2 t).2.2.2.1 a.1)
section HSPEC
variable {sg : Nat → Nat} {m k c n P T : Nat} {a : hA}
theorem S_hp_ok (h : (S_hp sg m k).2.2.2 = none) (hk : k ≤ m) : 1 ≤ (S_hp sg m k).1 ∧ (S_hp sg m k).1 ≤ 99 ∧ (S_hp sg m k).2.1 < 2 ∧ (S_hp sg m k).2.2.1 ≤ m := by
  unfold S_hp at h ⊢
  cases hf : (S_nm sg m 1 99 k).2.2 with
  | some f => rw [hf] at h; cases h
  | none =>
    rw [hf] at h
    have hv := S_nm_ok hf
    have hle := (S_nm_le (sg := sg) (lo := 1) (hi := 99) hk).2
    generalize S_nm sg m 1 99 k = z at *
    dsimp only at h ⊢
    by_cases q : z.2.1 < m ∧ sg z.2.1 = 64
    · rw [if_pos q] at h ⊢
      by_cases w : S_o1 sg m 0 1 (z.2.1 + 1) = true
      · rw [if_pos w] at h ⊢
        have hw := S_o1_lt w
        exact ⟨hv.1, hv.2, by show sg _ - 48 < 2; omega, by show z.2.1 + 2 ≤ m; omega⟩
      · rw [if_neg w] at h
        cases h
    · rw [if_neg q] at h ⊢
      exact ⟨hv.1, hv.2, by show 0 < 2; omega, hle⟩
theorem S_ht3_ok {o w p : Nat} (h : (S_ht3 sg m c o w p k).2.2.2.2.2 = none) (hk : k ≤ m) : (S_ht3 sg m c o w p k).1 = o ∧ (S_ht3 sg m c o w p k).2.1 = w ∧ ((S_ht3 sg m c o w p k).2.2.2.1 = -1 ∨ B_lt (S_ht3 sg m c o w p k).2.2.2.1 c) ∧ (S_ht3 sg m c o w p k).2.2.2.2.1 ≤ m := by
  unfold S_ht3 at h ⊢
  by_cases q : k < m ∧ sg k = 62
  · rw [if_pos q] at h ⊢
    by_cases z : S_lt sg m c (k + 1) = true ∧ ¬ sg (k + 1) - 97 = o
    · rw [if_pos z] at h ⊢
      have := S_lt_lt z.1
      exact ⟨rfl, rfl, Or.inr ⟨sg (k + 1) - 97, by omega, rfl⟩, by show k + 2 ≤ m; omega⟩
    · rw [if_neg z] at h
      cases h
  · rw [if_neg q] at h ⊢
    exact ⟨rfl, rfl, Or.inl rfl, hk⟩
theorem S_ht_ok (h : (S_ht sg m c k).2.2.2.2.2 = none) (hk : k ≤ m) : (S_ht sg m c k).1 < c ∧ (S_ht sg m c k).2.1 ≤ 40 ∧ ((S_ht sg m c k).2.2.2.1 = -1 ∨ B_lt (S_ht sg m c k).2.2.2.1 c) ∧ (S_ht sg m c k).2.2.2.2.1 ≤ m := by
  unfold S_ht at h ⊢
  by_cases q : S_lt sg m c k = true
  · rw [if_pos q] at h ⊢
    have hq := S_lt_lt q
    cases hf : (S_nm sg m 1 40 (k + 1)).2.2 with
    | some f => rw [hf] at h; cases h
    | none =>
      rw [hf] at h
      have hv := S_nm_ok hf
      have hle := (S_nm_le (sg := sg) (lo := 1) (hi := 40) (show k + 1 ≤ m by omega)).2
      generalize S_nm sg m 1 40 (k + 1) = z at *
      dsimp only at h ⊢
      unfold S_ht2 at h ⊢
      by_cases w : z.2.1 < m ∧ sg z.2.1 = 42
      · rw [if_pos w] at h ⊢
        by_cases y : S_o1 sg m 0 9 (z.2.1 + 1) = true
        · rw [if_pos y] at h ⊢
          have hy := S_o1_lt y
          obtain ⟨g1, g2, g3, g4⟩ := S_ht3_ok h (by omega)
          exact ⟨by rw [g1]; omega, by rw [g2]; omega, g3, g4⟩
        · rw [if_neg y] at h
          cases h
      · rw [if_neg w] at h
        cases h
  · rw [if_neg q] at h
    cases h
/-- a good line: one more -/
theorem S_hs_ok (ho : H_ok P T a) (hk : k ≤ m) (h : (S_hs sg m k a).2.2 = none) : H_ok P T (S_hs sg m k a).1 ∧ (S_hs sg m k a).2.1 ≤ m ∧ (S_hs sg m k a).1.1 + (S_hs sg m k a).1.2.1 = a.1 + a.2.1 + 1 := by
  obtain ⟨o1, o2, o3, o4, o5, o6⟩ := ho
  unfold S_hs at h ⊢
  by_cases q : a.1 < 6 ∧ k < m ∧ sg k = 112
  · rw [if_pos q] at h ⊢
    cases hf : (S_hp sg m (k + 1)).2.2.2 with
    | some f => rw [hf] at h; cases h
    | none =>
      obtain ⟨g1, g2, g3, g4⟩ := S_hp_ok hf (by omega)
      refine ⟨⟨by show P ≤ a.1 + 1; omega, by show a.1 + 1 ≤ 6; omega, o3, o4, fun p h1 h2 => ?_, fun t h1 h2 => ?_⟩, g4, by show a.1 + 1 + a.2.1 = _; omega⟩
      · change p < a.1 + 1 at h2
        dsimp only
        by_cases w : p = a.1
        · rw [if_pos w]
          exact ⟨g1, g2, g3⟩
        · rw [if_neg w]
          exact o5 p h1 (by omega)
      · obtain ⟨i1, i2, i3⟩ := o6 t h1 h2
        refine ⟨by show _ < a.1 + 1; exact Nat.lt_succ_of_lt i1, i2, ?_⟩
        rcases i3 with i3 | ⟨v, i3, i4⟩
        · exact Or.inl i3
        · exact Or.inr ⟨v, by show v < a.1 + 1; omega, i4⟩
  · rw [if_neg q] at h ⊢
    by_cases q2 : a.2.1 < 10 ∧ k < m ∧ sg k = 116
    · rw [if_pos q2] at h ⊢
      cases hf : (S_ht sg m a.1 (k + 1)).2.2.2.2.2 with
      | some f => rw [hf] at h; cases h
      | none =>
        obtain ⟨g1, g2, g3, g4⟩ := S_ht_ok hf (by omega)
        refine ⟨⟨o1, o2, by show T ≤ a.2.1 + 1; omega, by show a.2.1 + 1 ≤ 10; omega, o5, fun t h1 h2 => ?_⟩, g4, by show a.1 + (a.2.1 + 1) = _; omega⟩
        change t < a.2.1 + 1 at h2
        dsimp only
        by_cases w : t = a.2.1
        · rw [if_pos w]
          exact ⟨g1, g2, g3⟩
        · rw [if_neg w]
          exact o6 t h1 (by omega)
    · rw [if_neg q2] at h
      cases h
theorem S_hl_ok : ∀ (d x k : Nat) (a : hA), H_ok P T a → k ≤ m → (S_hl sg n m d x k a).2.2 = none → H_ok P T (S_hl sg n m d x k a).1 ∧ (S_hl sg n m d x k a).1.1 + (S_hl sg n m d x k a).1.2.1 + x = a.1 + a.2.1 + (S_hl sg n m d x k a).2.1 + 1 ∧ x ≤ (S_hl sg n m d x k a).2.1 := by
  intro d
  induction d with
  | zero => intro x k a _ _ h; cases h
  | succ d ih =>
    intro x k a ho hk h
    unfold S_hl at h ⊢
    cases hf : (S_hs sg m k a).2.2 with
    | some f => rw [hf] at h; cases h
    | none =>
      rw [hf] at h
      obtain ⟨s1, s2, s3⟩ := S_hs_ok ho hk hf
      dsimp only at h ⊢
      by_cases q : (S_hs sg m k a).2.1 < m ∧ sg (S_hs sg m k a).2.1 = 59
      · rw [if_pos q] at h ⊢
        obtain ⟨i1, i2, i3⟩ := ih (x + 1) _ _ s1 (by omega) h
        exact ⟨i1, by omega, by omega⟩
      · rw [if_neg q] at h ⊢
        exact ⟨s1, by dsimp only; omega, Nat.le_refl _⟩
end HSPEC
/-! the class -/
def E_hs (P T : Nat) : Nat → Nat → Bool := fun a k => match a with
  | 1 => [2, 3, 4].contains k
  | 3 => [12, 13].contains k
  | 4 => Nat.ble P k
  | 5 => Nat.ble P k
  | 6 => Nat.ble P k
  | 7 => Nat.ble T k
  | 8 => Nat.ble T k
  | 9 => Nat.ble T k
  | 10 => Nat.ble T k
  | 11 => Nat.ble T k
  | 12 => Nat.ble T k
  | 13 => Nat.ble T k
  | _ => false
theorem ble_beq {P N k : Nat} (h : P ≤ N) (e : Nat.beq k N = true) : Nat.ble P k = true := by
  have := Nat.eq_of_beq_eq_true e
  subst this
  exact Nat.ble_eq.mpr h
theorem E_hp_hs {P T N : Nat} (h : P ≤ N) : ∀ a k, E_hp N a k = true → E_hs P T a k = true := fun a k e => by
  unfold E_hp at e
  split at e
  · exact e
  · have := Nat.eq_of_beq_eq_true e
    subst this
    rfl
  · exact ble_beq h e
  · exact ble_beq h e
  · exact ble_beq h e
  · cases e
theorem E_ht_hs {P T N : Nat} (h : T ≤ N) : ∀ a k, E_ht N a k = true → E_hs P T a k = true := fun a k e => by
  unfold E_ht at e
  split at e
  · exact e
  · have := Nat.eq_of_beq_eq_true e
    subst this
    rfl
  · exact ble_beq h e
  · exact ble_beq h e
  · exact ble_beq h e
  · exact ble_beq h e
  · exact ble_beq h e
  · exact ble_beq h e
  · exact ble_beq h e
  · cases e
/-- a thing's row, as it is read -/
def C_hr (h : pH) (N : Nat) (t : pT) : Prop := h 7 N = nI t.2.1 ∧ h 8 N = nI t.2.1 ∧ h 9 N = nI t.2.2.1 ∧ h 10 N = nI t.1 ∧ h 11 N = t.2.2.2.1 ∧ h 12 N = 0 ∧ h 13 N = nI 1 <<< (nI t.1 &&& 31)
section HCLASS
variable {sg : Nat → Nat} {m k c n P T : Nat} {a : hA} {h h0 : pH}
def C_hl (h0 h : pH) (P T n m k : Nat) (sg : Nat → Nat) (a : hA) : Prop := C_rd h n m k sg ∧ h 3 12 = nI a.1 ∧ h 3 13 = nI a.2.1 ∧ (∀ p, P ≤ p → p < a.1 → h 4 p = nI (a.2.2.1 p).1 ∧ h 5 p = nI (a.2.2.1 p).2 ∧ h 6 p = nI 5) ∧ (∀ t, T ≤ t → t < a.2.1 → C_hr h t (a.2.2.2 t)) ∧ B_fr (E_hs P T) h0 h
theorem hs_line_s (ho : H_ok P T a) (C : C_hl h0 h P T n m k sg a) (hm : m ≤ n) (hn : n ≤ 80) (hk : k ≤ m) (hs : ∀ j, j < n → sg j < 256) : (∀ f, (S_hs sg m k a).2.2 = some f → ∃ h', hs_readLine h = some (0, h') ∧ h' 1 4 = nI f ∧ B_fr (E_hs P T) h0 h') ∧ ((S_hs sg m k a).2.2 = none → ∃ h', hs_readLine h = some (nI 1, h') ∧ C_hl h0 h' P T n m (S_hs sg m k a).2.1 sg (S_hs sg m k a).1) := by
  obtain ⟨o1, o2, o3, o4, o5, o6⟩ := ho
  obtain ⟨C1, e12, e13, cp, ct, F⟩ := C
  rw [hs_readLine_s o2 o4 e12 e13 C1 hm hn hk hs]
  unfold S_hs
  by_cases q : a.1 < 6 ∧ k < m ∧ sg k = 112
  · rw [if_pos q, if_pos q]
    have F1 : B_fr (E_hs P T) h0 (px_w h 1 2 (nI (k + 1))) := F.w rfl
    obtain ⟨h', x1, x2, x3, x4⟩ := hs_readPerson_s (h := px_w h 1 2 (nI (k + 1))) q.1 (by rw [B_w_cell _ _ _ (show (3 : Nat) ≠ 1 by decide), e12]) (C1.to (k + 1)) hm hn (by omega) hs
    have F2 : B_fr (E_hs P T) h0 h' := F1.trans (x4.mono (E_hp_hs o1))
    rw [x1, B_bind]
    cases hf : (S_hp sg m (k + 1)).2.2.2 with
    | some f =>
      refine ⟨fun f' w => ?_, fun w => by cases w⟩
      cases w
      have hn1 : ¬ (some f : Option Nat) = none := fun w => by cases w
      rw [if_neg hn1, B_bz0]
      exact ⟨h', rfl, x3 f hf, F2⟩
    | none =>
      refine ⟨fun f' w => (by cases w), fun _ => ?_⟩
      rw [if_pos rfl, B_bz1]
      obtain ⟨y1, y2, y3, y4, y5, y6⟩ := x2 hf
      refine ⟨h', rfl, y1, y6, ?_, fun p h1 h2 => ?_, fun t h1 h2 => ?_, F2⟩
      · rw [x4 3 13 rfl, B_w_cell _ _ _ (show (3 : Nat) ≠ 1 by decide), e13]
      · change p < a.1 + 1 at h2
        dsimp only
        by_cases w : p = a.1
        · rw [if_pos w, w]
          exact ⟨y3, y4, y5⟩
        · have hb : Nat.beq p a.1 = false := by
            cases z : Nat.beq p a.1 with
            | false => rfl
            | true => exact absurd (Nat.eq_of_beq_eq_true z) w
          rw [if_neg w, x4 4 p hb, x4 5 p hb, x4 6 p hb, B_w_cell _ _ _ (show (4 : Nat) ≠ 1 by decide), B_w_cell _ _ _ (show (5 : Nat) ≠ 1 by decide), B_w_cell _ _ _ (show (6 : Nat) ≠ 1 by decide)]
          exact cp p h1 (by omega)
      · have := ct t h1 h2
        unfold C_hr at *
        rw [x4 7 t rfl, x4 8 t rfl, x4 9 t rfl, x4 10 t rfl, x4 11 t rfl, x4 12 t rfl, x4 13 t rfl, B_w_cell _ _ _ (show (7 : Nat) ≠ 1 by decide), B_w_cell _ _ _ (show (8 : Nat) ≠ 1 by decide), B_w_cell _ _ _ (show (9 : Nat) ≠ 1 by decide), B_w_cell _ _ _ (show (10 : Nat) ≠ 1 by decide), B_w_cell _ _ _ (show (11 : Nat) ≠ 1 by decide), B_w_cell _ _ _ (show (12 : Nat) ≠ 1 by decide), B_w_cell _ _ _ (show (13 : Nat) ≠ 1 by decide)]
        exact this
  · rw [if_neg q, if_neg q]
    by_cases q2 : a.2.1 < 10 ∧ k < m ∧ sg k = 116
    · rw [if_pos q2, if_pos q2]
      have F1 : B_fr (E_hs P T) h0 (px_w h 1 2 (nI (k + 1))) := F.w rfl
      obtain ⟨r, h', x1, x2, x3, x5, x4⟩ := hs_readThing_s (h := px_w h 1 2 (nI (k + 1))) q2.1 o2 (by rw [B_w_cell _ _ _ (show (3 : Nat) ≠ 1 by decide), e12]) (by rw [B_w_cell _ _ _ (show (3 : Nat) ≠ 1 by decide), e13]) (C1.to (k + 1)) hm hn (by omega) hs
      have F2 : B_fr (E_hs P T) h0 h' := F1.trans (x4.mono (E_ht_hs o3))
      rw [x1, B_bind, x2]
      cases hf : (S_ht sg m a.1 (k + 1)).2.2.2.2.2 with
      | some f =>
        refine ⟨fun f' w => ?_, fun w => by cases w⟩
        cases w
        have hn1 : ¬ (some f : Option Nat) = none := fun w => by cases w
        rw [if_neg hn1, B_bz0]
        exact ⟨h', rfl, x5 f hf, F2⟩
      | none =>
        refine ⟨fun f' w => (by cases w), fun _ => ?_⟩
        rw [if_pos rfl, B_bz1]
        obtain ⟨y1, y2, y3⟩ := x3 hf
        refine ⟨h', rfl, y1, ?_, y3.2.2.2.2.2.2.2, fun p h1 h2 => ?_, fun t h1 h2 => ?_, F2⟩
        · rw [x4 3 12 rfl, B_w_cell _ _ _ (show (3 : Nat) ≠ 1 by decide), e12]
        · rw [x4 4 p rfl, x4 5 p rfl, x4 6 p rfl, B_w_cell _ _ _ (show (4 : Nat) ≠ 1 by decide), B_w_cell _ _ _ (show (5 : Nat) ≠ 1 by decide), B_w_cell _ _ _ (show (6 : Nat) ≠ 1 by decide)]
          exact cp p h1 h2
        · change t < a.2.1 + 1 at h2
          dsimp only
          by_cases w : t = a.2.1
          · rw [if_pos w, w]
            obtain ⟨z1, z2, z3, z4, z5, z6, z7, -⟩ := y3
            exact ⟨z1, z2, z3, z4, z5, z6, z7⟩
          · have hb : Nat.beq t a.2.1 = false := by
              cases z : Nat.beq t a.2.1 with
              | false => rfl
              | true => exact absurd (Nat.eq_of_beq_eq_true z) w
            have := ct t h1 (by omega)
            unfold C_hr at *
            rw [if_neg w, x4 7 t hb, x4 8 t hb, x4 9 t hb, x4 10 t hb, x4 11 t hb, x4 12 t hb, x4 13 t hb, B_w_cell _ _ _ (show (7 : Nat) ≠ 1 by decide), B_w_cell _ _ _ (show (8 : Nat) ≠ 1 by decide), B_w_cell _ _ _ (show (9 : Nat) ≠ 1 by decide), B_w_cell _ _ _ (show (10 : Nat) ≠ 1 by decide), B_w_cell _ _ _ (show (11 : Nat) ≠ 1 by decide), B_w_cell _ _ _ (show (12 : Nat) ≠ 1 by decide), B_w_cell _ _ _ (show (13 : Nat) ≠ 1 by decide)]
            exact this
    · rw [if_neg q2, if_neg q2]
      refine ⟨fun f w => ?_, fun w => by cases w⟩
      cases w
      exact ⟨_, rfl, B_w_same _ _ _ _, F.w rfl⟩
theorem C_hl.to (C : C_hl h0 h P T n m k sg a) (j : Nat) : C_hl h0 (px_w h 1 2 (nI j)) P T n m j sg a := by
  obtain ⟨C1, e12, e13, cp, ct, F⟩ := C
  refine ⟨C1.to j, by rw [B_w_cell _ _ _ (show (3 : Nat) ≠ 1 by decide), e12], by rw [B_w_cell _ _ _ (show (3 : Nat) ≠ 1 by decide), e13], fun p h1 h2 => ?_, fun t h1 h2 => ?_, F.w rfl⟩
  · rw [B_w_cell _ _ _ (show (4 : Nat) ≠ 1 by decide), B_w_cell _ _ _ (show (5 : Nat) ≠ 1 by decide), B_w_cell _ _ _ (show (6 : Nat) ≠ 1 by decide)]
    exact cp p h1 h2
  · have := ct t h1 h2
    unfold C_hr at *
    rw [B_w_cell _ _ _ (show (7 : Nat) ≠ 1 by decide), B_w_cell _ _ _ (show (8 : Nat) ≠ 1 by decide), B_w_cell _ _ _ (show (9 : Nat) ≠ 1 by decide), B_w_cell _ _ _ (show (10 : Nat) ≠ 1 by decide), B_w_cell _ _ _ (show (11 : Nat) ≠ 1 by decide), B_w_cell _ _ _ (show (12 : Nat) ≠ 1 by decide), B_w_cell _ _ _ (show (13 : Nat) ≠ 1 by decide)]
    exact this
theorem hs_read_33_s (hm : m ≤ n) (hn : n ≤ 80) (hs : ∀ j, j < n → sg j < 256) : ∀ (d x k g : Nat) (a : hA) (h : pH), H_ok P T a → (6 - a.1) + (10 - a.2.1) + 1 ≤ d → x + d ≤ 76 → d < g → k ≤ m → C_hl h0 h P T n m k sg a → (∀ f, (S_hl sg n m d x k a).2.2 = some f → ∃ h', hs_read_33 g (nI x) h = some (-1 - nI f, h') ∧ B_fr (E_hs P T) h0 h') ∧ ((S_hl sg n m d x k a).2.2 = none → ∃ h' k', C_hl h0 h' P T n m k' sg (S_hl sg n m d x k a).1 ∧ hs_read_33 g (nI x) h = some (nI (S_hl sg n m d x k a).2.1, px_w (px_w h' 3 10 (nI (S_hl sg n m d x k a).1.1)) 3 11 (nI (S_hl sg n m d x k a).1.2.1))) := by
  intro d
  induction d with
  | zero => intro x k g a h _ hd; omega
  | succ d ih =>
    intro x k g a h ho hd hx hg hk C
    obtain ⟨g, rfl⟩ : ∃ n', g = n' + 1 := ⟨g - 1, by omega⟩
    obtain ⟨l1, l2⟩ := hs_line_s ho C hm hn hk hs
    have e59 : px_c 59 = nI 59 := pc_n 59
    have hz : hs_read_33 (g + 1) (nI x) h = px_bind (hs_readLine h) fun z1 h2 => if z1 = 0 then px_bind (tx_answer h2) fun z3 h4 => some (z3, h4) else px_bind (tx_meet (nI 59) h2) fun z5 h6 => if z5 = 0 then px_bind (tx_closes h6) fun z7 h8 => if z7 = 0 then px_bind (tx_answer h8) fun z9 h10 => hs_read_80 z9 h10 else px_bind (hs_moveIn (nI x) h8) fun z11 h12 => hs_read_80 z11 h12 else hs_read_33 g (nI (x + 1)) h6 := by
      show (if px_c 76 < nI x then _ else _) = _
      rw [bc_76, if_neg (fun w => by rw [bn_lt (by omega) (by omega)] at w; omega), e59, bc_1, nI_add]
    rw [hz]
    unfold S_hl
    cases hf : (S_hs sg m k a).2.2 with
    | some f =>
      obtain ⟨h', y1, y2, y3⟩ := l1 f hf
      refine ⟨fun f' w => ?_, fun w => by cases w⟩
      cases w
      refine ⟨h', ?_, y3⟩
      rw [y1, B_bind, if_pos rfl]
      unfold tx_answer
      rw [y2, bc_m1, B_bind]
    | none =>
      obtain ⟨h', y1, y2⟩ := l2 hf
      obtain ⟨s1, s2, s3⟩ := S_hs_ok ho hk hf
      dsimp only
      generalize S_hs sg m k a = z at *
      rw [y1, B_bind, if_neg (show ¬ nI 1 = 0 by decide), tx_meet_m y2.1 hm hn s2 hs (z := 59) (by omega)]
      by_cases q : z.2.1 < m ∧ sg z.2.1 = 59
      · rw [if_pos q, if_pos q, B_bind, if_neg (show ¬ nI 1 = 0 by decide)]
        have := s1.2.1
        have := s1.2.2.2.1
        have := ho.2.1
        have := ho.2.2.2.1
        exact ih (x + 1) (z.2.1 + 1) g z.1 _ s1 (by omega) (by omega) (by omega) (by omega) (y2.to (z.2.1 + 1))
      · rw [if_neg q, if_neg q, B_bind, if_pos (show (0 : Int32) = 0 from rfl)]
        have ecl : tx_closes h' = if z.2.1 = n then some (nI 1, h') else some (0, px_w h' 1 4 (nI z.2.1)) := by
          unfold tx_closes tx_closes_18 tx_closes_23 tx_refuse
          rw [y2.1.2.1, y2.1.1, bc_1, bc_0, B_bz1]
          by_cases w : z.2.1 = n
          · rw [if_pos (by rw [w]), if_pos w]
          · rw [if_neg (fun e => by rw [bn_eq (by omega) (by omega)] at e; exact w e), if_neg w]
            dsimp only
            rw [B_bz0, B_bind, if_pos rfl, B_bz0]
        rw [ecl]
        by_cases w : z.2.1 = n
        · rw [if_pos w, if_pos w]
          refine ⟨fun f e => (by cases e), fun _ => ⟨h', z.2.1, y2, ?_⟩⟩
          rw [B_bind, if_neg (by decide)]
          unfold hs_moveIn hs_read_80
          dsimp only
          rw [B_bind, y2.2.1, B_w_at, if_neg (by decide), y2.2.2.1]
        · rw [if_neg w, if_neg w]
          refine ⟨fun f e => ?_, fun e => by cases e⟩
          cases e
          refine ⟨px_w h' 1 4 (nI z.2.1), ?_, y2.2.2.2.2.2.w rfl⟩
          rw [B_bind, if_pos rfl]
          unfold tx_answer hs_read_80
          rw [B_w_same, bc_m1, B_bind]
end HCLASS
