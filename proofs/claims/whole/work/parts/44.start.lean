/-! What the fresh objects hold, as contents of the pure machine -/
def px_h0 : pH := fun a k => match px_nth (qi_wu ++ qi_mo) a with
  | none => 0
  | some e => match px_nth e.2.2 k with
    | some (some (.inl x)) => x
    | some none => -1
    | _ => 0
set_option maxRecDepth 100000 in
theorem px_w0_at : ∀ a, a < 82 → ∀ (D3 : Nat → ClassId) (ad : Nat → Nat), ((qi_wu ++ qi_mo)[a]?).map (qi_ent D3 ad) = some (px_ent D3 ad px_h0 a) := by
  intro a ha D3 ad
  match a, ha with
  | 0, _ => rfl
  | 1, _ => rfl
  | 2, _ => rfl
  | 3, _ => rfl
  | 4, _ => rfl
  | 5, _ => rfl
  | 6, _ => rfl
  | 7, _ => rfl
  | 8, _ => rfl
  | 9, _ => rfl
  | 10, _ => rfl
  | 11, _ => rfl
  | 12, _ => rfl
  | 13, _ => rfl
  | 14, _ => rfl
  | 15, _ => rfl
  | 16, _ => rfl
  | 17, _ => rfl
  | 18, _ => rfl
  | 19, _ => rfl
  | 20, _ => rfl
  | 21, _ => rfl
  | 22, _ => rfl
  | 23, _ => rfl
  | 24, _ => rfl
  | 25, _ => rfl
  | 26, _ => rfl
  | 27, _ => rfl
  | 28, _ => rfl
  | 29, _ => rfl
  | 30, _ => rfl
  | 31, _ => rfl
  | 32, _ => rfl
  | 33, _ => rfl
  | 34, _ => rfl
  | 35, _ => rfl
  | 36, _ => rfl
  | 37, _ => rfl
  | 38, _ => rfl
  | 39, _ => rfl
  | 40, _ => rfl
  | 41, _ => rfl
  | 42, _ => rfl
  | 43, _ => rfl
  | 44, _ => rfl
  | 45, _ => rfl
  | 46, _ => rfl
  | 47, _ => rfl
  | 48, _ => rfl
  | 49, _ => rfl
  | 50, _ => rfl
  | 51, _ => rfl
  | 52, _ => rfl
  | 53, _ => rfl
  | 54, _ => rfl
  | 55, _ => rfl
  | 56, _ => rfl
  | 57, _ => rfl
  | 58, _ => rfl
  | 59, _ => rfl
  | 60, _ => rfl
  | 61, _ => rfl
  | 62, _ => rfl
  | 63, _ => rfl
  | 64, _ => rfl
  | 65, _ => rfl
  | 66, _ => rfl
  | 67, _ => rfl
  | 68, _ => rfl
  | 69, _ => rfl
  | 70, _ => rfl
  | 71, _ => rfl
  | 72, _ => rfl
  | 73, _ => rfl
  | 74, _ => rfl
  | 75, _ => rfl
  | 76, _ => rfl
  | 77, _ => rfl
  | 78, _ => rfl
  | 79, _ => rfl
  | 80, _ => rfl
  | 81, _ => rfl
  | n + 82, h => omega
theorem px_w0 {D3 : Nat → ClassId} {ad : Nat → Nat} : qi_ws D3 ad (qi_wu ++ qi_mo) = px_ws D3 ad px_h0 := by
  apply List.ext_getElem?
  intro i
  have hlen : (qi_wu ++ qi_mo).length = 82 := rfl
  unfold qi_ws
  rw [qi_go_at, Nat.zero_add]
  by_cases hi : i < 82
  · rw [px_ws_at (show i < px_N from hi)]
    have h1 := px_w0_at i hi D3 ad
    cases hq : (qi_wu ++ qi_mo)[i]? with
    | none => rw [hq] at h1; cases h1
    | some e =>
      rw [hq] at h1
      have h2 := Option.some.inj h1
      show some (ad i, qi_ent D3 ad e) = _
      rw [h2]
  · rw [List.getElem?_eq_none (by rw [hlen]; omega), List.getElem?_eq_none (by simp [px_ws, px_N]; omega)]
    rfl
