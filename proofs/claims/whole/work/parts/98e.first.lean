/-! Layer B: the first state -/
def S_ev0 : pE := fun p t _ _ _ _ _ => p + t / nI 2
theorem Inv_0 : Inv 0 px_h0 := by
  refine ⟨0, 0, 0, 20, 0, fun _ _ => 0, S_ev0, ⟨?_, ⟨?_, ?_⟩, ?_, ?_, ?_, ?_, ?_⟩, ?_⟩
  · exact ⟨by decide, by decide, by decide, by decide, fun k hk => absurd hk (by omega), fun k hk => absurd hk (by omega), fun k hk => absurd hk (by omega), fun k hk => absurd hk (by omega), fun k hk => absurd hk (by omega), fun k hk => absurd hk (by omega), fun k hk => absurd hk (by omega), fun k hk => absurd hk (by omega), fun k hk => absurd hk (by omega), fun k hk => absurd hk (by omega), fun k hk => absurd hk (by omega)⟩
  · exact ⟨by decide, by decide, by decide, by decide, fun k hk => absurd hk (by omega), fun k hk => absurd hk (by omega), fun k hk => absurd hk (by omega), fun k hk => absurd hk (by omega), fun k hk => absurd hk (by omega)⟩
  · exact ⟨fun k hk => absurd hk (by omega), fun k hk => absurd hk (by omega), fun k hk => absurd hk (by omega), fun k hk => absurd hk (by omega), fun k hk => absurd hk (by omega), fun k hk => absurd hk (by omega)⟩
  · exact ⟨by omega, by omega, by omega, by omega, by omega, fun k hk => absurd hk (by omega), fun k hk => absurd hk (by omega), fun k hk => absurd hk (by omega), fun k hk => absurd hk (by omega), fun k hk => absurd hk (by omega), fun k hk => absurd hk (by omega), fun k hk => absurd hk (by omega), fun k hk => absurd hk (by omega), fun k hk => absurd hk (by omega), fun k hk => absurd hk (by omega)⟩
  · exact ⟨by omega, by decide, by decide, fun k hk => absurd hk (by omega)⟩
  · exact ⟨0, 0, by omega, by omega, by decide, by decide, by decide, fun k hk => absurd hk (by omega)⟩
  · refine ⟨0, by omega, by decide, fun q hq => ?_⟩
    have e : px_h0 41 1 = 0 := by decide
    have e80 : ∀ q, q < 2 → px_h0 80 q = 0 := by decide
    rw [e, B_bit_0]
    exact ⟨Or.inl (e80 q hq), by rw [if_neg (by decide)]; exact Or.inl (e80 q hq)⟩
  · have e : px_h0 17 4 = 0 := by decide
    have e2 : px_h0 51 26 = 0 := by decide
    unfold I_rul
    rw [e, e2]
    refine ⟨fun h h1 h2 t w y => ?_, fun h a t h1 h2 ht hl h10 k y n h57 => ?_⟩
    · refine ⟨px_w (px_w (px_w h 17 9 t) 17 10 w) 17 11 y, ?_, ((((B_fr.refl _ h).w rfl).w rfl).w rfl)⟩
      generalize hH : px_w (px_w (px_w h 17 9 t) 17 10 w) 17 11 y = h3
      have g4 : h3 17 4 = 0 := by rw [← hH, B_w_at, if_neg (by decide), B_w_at, if_neg (by decide), B_w_at, if_neg (by decide), h1]
      have g8 : h3 17 8 = h 17 8 := by rw [← hH, B_w_at, if_neg (by decide), B_w_at, if_neg (by decide), B_w_at, if_neg (by decide)]
      have g9 : h3 17 9 = t := by rw [← hH, B_w_at, if_neg (by decide), B_w_at, if_neg (by decide), B_w_same]
      unfold ru_pressure
      rw [bc_0, bc_2]
      dsimp only
      rw [hH, if_pos g4, if_neg (show ¬ nI 2 = 0 by decide), g8, g9]
      rfl
    · refine ⟨h, ?_, B_fr.refl _ _⟩
      unfold mo_pressureOf
      rw [h1, bc_0, bc_2, if_pos rfl, po_56 h10, B_ift, if_neg (by decide), nI_clamp (by omega)]
      rfl
  · exact ⟨0, by omega, by decide, by decide, fun k hk => absurd hk (by omega)⟩
