/-! Layer B: house: moving in, the reference -/
section MOVE
variable {n mo P T Q R : Nat}
def E_mip (lo : Nat) : Nat → Nat → Bool := fun a k => match a with
  | 51 => Nat.beq k 4
  | 54 => Nat.ble lo k
  | 52 => (Nat.ble lo k && Nat.ble k 5) || (Nat.ble (6 + lo) k && Nat.ble k 11)
  | _ => false
theorem E_mip_mono {lo lo2 : Nat} (h : lo ≤ lo2) : ∀ a k, E_mip lo2 a k = true → E_mip lo a k = true := fun a k e => by
  unfold E_mip at *
  split at e
  · exact e
  · exact B_ble_t (Nat.le_trans h (Nat.ble_eq.mp e))
  · rw [Bool.or_eq_true, Bool.and_eq_true, Bool.and_eq_true, Nat.ble_eq, Nat.ble_eq, Nat.ble_eq, Nat.ble_eq] at e ⊢
    omega
  · cases e
def E_mit (lo : Nat) : Nat → Nat → Bool := fun a k => match a with
  | 51 => [6, 35, 60].contains k
  | 55 => Nat.ble lo k
  | 56 => Nat.ble lo k
  | 57 => Nat.ble lo k
  | 52 => ((Nat.ble (12 + lo) k && Nat.ble k 21) || (Nat.ble (22 + lo) k && Nat.ble k 31)) || ((Nat.ble (32 + lo) k && Nat.ble k 41) || (Nat.ble (42 + lo) k && Nat.ble k 51))
  | _ => false
theorem E_mit_mono {lo lo2 : Nat} (h : lo ≤ lo2) : ∀ a k, E_mit lo2 a k = true → E_mit lo a k = true := fun a k e => by
  unfold E_mit at *
  split at e
  · exact e
  · exact B_ble_t (Nat.le_trans h (Nat.ble_eq.mp e))
  · exact B_ble_t (Nat.le_trans h (Nat.ble_eq.mp e))
  · exact B_ble_t (Nat.le_trans h (Nat.ble_eq.mp e))
  · simp only [Bool.or_eq_true, Bool.and_eq_true, Nat.ble_eq] at e ⊢
    omega
  · cases e
theorem E_mip_52 {lo k : Nat} (e : (lo ≤ k ∧ k ≤ 5) ∨ (6 + lo ≤ k ∧ k ≤ 11)) : E_mip lo 52 k = true := by
  show ((Nat.ble lo k && Nat.ble k 5) || (Nat.ble (6 + lo) k && Nat.ble k 11)) = true
  rw [Bool.or_eq_true, Bool.and_eq_true, Bool.and_eq_true, Nat.ble_eq, Nat.ble_eq, Nat.ble_eq, Nat.ble_eq]
  exact e
theorem E_mip_52f {lo k : Nat} (e : ¬ ((lo ≤ k ∧ k ≤ 5) ∨ (6 + lo ≤ k ∧ k ≤ 11))) : E_mip lo 52 k = false := by
  cases z : E_mip lo 52 k with
  | false => rfl
  | true =>
    change ((Nat.ble lo k && Nat.ble k 5) || (Nat.ble (6 + lo) k && Nat.ble k 11)) = true at z
    rw [Bool.or_eq_true, Bool.and_eq_true, Bool.and_eq_true, Nat.ble_eq, Nat.ble_eq, Nat.ble_eq, Nat.ble_eq] at z
    exact absurd z e
theorem E_mit_52 {lo k : Nat} (e : ((12 + lo ≤ k ∧ k ≤ 21) ∨ (22 + lo ≤ k ∧ k ≤ 31)) ∨ ((32 + lo ≤ k ∧ k ≤ 41) ∨ (42 + lo ≤ k ∧ k ≤ 51))) : E_mit lo 52 k = true := by
  show (((Nat.ble (12 + lo) k && Nat.ble k 21) || (Nat.ble (22 + lo) k && Nat.ble k 31)) || ((Nat.ble (32 + lo) k && Nat.ble k 41) || (Nat.ble (42 + lo) k && Nat.ble k 51))) = true
  simp only [Bool.or_eq_true, Bool.and_eq_true, Nat.ble_eq]
  exact e
theorem E_mit_52f {lo k : Nat} (e : ¬ (((12 + lo ≤ k ∧ k ≤ 21) ∨ (22 + lo ≤ k ∧ k ≤ 31)) ∨ ((32 + lo ≤ k ∧ k ≤ 41) ∨ (42 + lo ≤ k ∧ k ≤ 51)))) : E_mit lo 52 k = false := by
  cases z : E_mit lo 52 k with
  | false => rfl
  | true =>
    change (((Nat.ble (12 + lo) k && Nat.ble k 21) || (Nat.ble (22 + lo) k && Nat.ble k 31)) || ((Nat.ble (32 + lo) k && Nat.ble k 41) || (Nat.ble (42 + lo) k && Nat.ble k 51))) = true at z
    simp only [Bool.or_eq_true, Bool.and_eq_true, Nat.ble_eq] at z
    exact absurd z e
theorem mo_house_105_s {v : Nat → Nat × Nat} (hQ : P + Q ≤ 6) : ∀ (m j g : Nat) (h : pH), j + m = Q → m < g → h 51 23 = nI Q → h 51 4 = nI (P + j) → (∀ i, i < Q → h 61 (2 * i) = nI (v (P + i)).1 ∧ h 61 (2 * i + 1) = nI (v (P + i)).2) → ∃ h', mo_house_105 g (nI j) h = mo_house_180 px_F (nI 0) h' ∧ h' 51 4 = nI (P + Q) ∧ (∀ p, P + j ≤ p → p < P + Q → h' 54 p = nI (v p).1 ∧ h' 52 p = nI (v p).2 ∧ h' 52 (6 + p) = nI 5) ∧ B_fr (E_mip (P + j)) h h' := by
  intro m
  induction m with
  | zero =>
    intro j g h hj hg e23 e4 e61
    obtain ⟨g, rfl⟩ : ∃ n', g = n' + 1 := ⟨g - 1, by omega⟩
    refine ⟨h, ?_, by rw [e4, show P + j = P + Q by omega], fun p h1 h2 => absurd h1 (by omega), B_fr.refl _ _⟩
    show (if h 51 23 ≤ nI j then _ else _) = _
    rw [e23, if_pos (nI_le (by omega) (by omega)), bc_0, nI_0]
  | succ m ih =>
    intro j g h hj hg e23 e4 e61
    obtain ⟨g, rfl⟩ : ∃ n', g = n' + 1 := ⟨g - 1, by omega⟩
    obtain ⟨v1, v2⟩ := e61 j (by omega)
    generalize hH : px_w (px_w (px_w (px_w h 54 (P + j) (nI (v (P + j)).1)) 52 (P + j) (nI (v (P + j)).2)) 52 (6 + (P + j)) (nI 5)) 51 4 (nI (P + j + 1)) = hN
    have hz : mo_house_105 (g + 1) (nI j) h = mo_house_105 g (nI (j + 1)) hN := by
      show (if h 51 23 ≤ nI j then _ else _) = _
      rw [e23, if_neg (nI_ge (by omega) (by omega))]
      simp (disch := omega) only [mo_house_149, mo_house_172, e4, v1, v2, po_52, pz_52, po_53, pz_53, po_54, pz_54, po_55, pz_55, po_56, pz_56, po_57, pz_57, po_58, pz_58, po_59, pz_59, po_60, pz_60, po_61, pz_61, po_62, pz_62, po_63, pz_63, po_64, pz_64, po_65, pz_65, po_66, pz_66, po_67, pz_67, po_68, pz_68, po_69, pz_69, po_70, pz_70, po_71, pz_71, po_72, pz_72, po_73, pz_73, po_74, pz_74, po_75, pz_75, po_76, pz_76, po_77, pz_77, po_78, pz_78, po_79, pz_79, po_80, pz_80, po_81, pz_81, B_bind, B_bind_if, B_ift, B_bz0, B_bz1, B_01_bz, B_01_e0, B_01_e1, if_pos, if_neg, reduceIte, Bool.false_eq_true, Bool.true_eq_false, bc_0, bc_m1, bc_1, bc_2, bc_3, bc_4, bc_5, bc_6, bc_7, bc_8, bc_9, bc_10, bc_11, bc_12, bc_13, bc_16, bc_22, bc_24, bc_32, bc_40, bc_41, bc_42, bc_43, bc_44, bc_45, bc_47, bc_48, bc_52, bc_57, bc_58, bc_59, bc_60, bc_61, bc_62, bc_63, bc_64, bc_76, bc_80, bc_97, bc_99, bc_105, bc_106, bc_107, bc_108, bc_109, bc_110, bc_111, bc_112, bc_113, bc_114, bc_115, bc_116, bc_117, bc_118, bc_119, bc_120, bc_121, bc_122, bc_255, bc_256, bc_400, bc_572, bc_999, bc_1024, bc_10000, bc_m2, bc_m3, bc_m8, bc_m100, bc_m200, pk_mul, nI_add, nI_clamp, B_w_cell]
      rw [← hH]
    have d1 : hN 51 23 = nI Q := by rw [← hH, B_w_at, if_neg (by decide), B_w_cell _ _ _ (by decide), B_w_cell _ _ _ (by decide), B_w_cell _ _ _ (by decide), e23]
    have d2 : hN 51 4 = nI (P + (j + 1)) := by rw [← hH, B_w_same, Nat.add_assoc]
    have d3 : hN 61 = h 61 := by rw [← hH, B_w_cell _ _ _ (by decide), B_w_cell _ _ _ (by decide), B_w_cell _ _ _ (by decide), B_w_cell _ _ _ (by decide)]
    have F0 : B_fr (E_mip (P + j)) h hN := by
      rw [← hH]
      refine ((((B_fr.refl _ h).w ?_).w ?_).w ?_).w rfl
      · exact B_ble_t (Nat.le_refl _)
      · exact E_mip_52 (by omega)
      · exact E_mip_52 (by omega)
    obtain ⟨h', a1, a2, a3, a4⟩ := ih (j + 1) g hN (by omega) (by omega) d1 d2 (fun i hi => by rw [d3]; exact e61 i hi)
    refine ⟨h', by rw [hz, a1], a2, fun p h1 h2 => ?_, F0.trans (a4.mono (E_mip_mono (by omega)))⟩
    by_cases w : p = P + j
    · subst w
      rw [a4 54 _ (B_ble_f (by omega)), a4 52 _ (E_mip_52f (by omega)), a4 52 _ (E_mip_52f (by omega)), ← hH]
      refine ⟨?_, ?_, ?_⟩
      · rw [B_w_cell _ _ _ (by decide), B_w_cell _ _ _ (by decide), B_w_cell _ _ _ (by decide), B_w_same]
      · rw [B_w_cell _ _ _ (by decide), B_w_at, if_neg (by omega), B_w_same]
      · rw [B_w_cell _ _ _ (by decide), B_w_same]
    · exact a3 p (by omega) h2
theorem mo_house_180_s {v : Nat → pT} (hQ : T + Q ≤ 10) : ∀ (m j g : Nat) (h : pH), j + m = Q → m < g → h 51 24 = nI Q → h 51 23 = nI R → R ≤ 6 → h 51 6 = nI (T + j) → (∀ i, i < Q → M_hr h i (v (T + i))) → ∃ h', mo_house_180 g (nI j) h = some (nI (R + Q), h') ∧ h' 51 6 = nI (T + Q) ∧ h' 51 35 = 0 ∧ h' 51 60 = h 51 60 + nI 1 ∧ (∀ t, T + j ≤ t → t < T + Q → h' 55 t = nI (v t).2.1 ∧ h' 56 t = nI (v t).2.2.1 ∧ h' 57 t = (v t).2.2.2.1 ∧ h' 52 (12 + t) = nI (v t).2.1 ∧ h' 52 (22 + t) = 0 ∧ h' 52 (32 + t) = nI (v t).1 ∧ h' 52 (42 + t) = nI 1 <<< (nI (v t).1 &&& 31)) ∧ B_fr (E_mit (T + j)) h h' := by
  intro m
  induction m with
  | zero =>
    intro j g h hj hg e24 e23 hR e6 e62
    obtain ⟨g, rfl⟩ : ∃ n', g = n' + 1 := ⟨g - 1, by omega⟩
    refine ⟨px_w (px_w h 51 35 0) 51 60 (h 51 60 + nI 1), ?_, ?_, ?_, B_w_same _ _ _ _, fun p h1 h2 => absurd h1 (by omega), ((B_fr.refl _ h).w rfl).w rfl⟩
    · show (if h 51 24 ≤ nI j then _ else _) = _
      rw [e24, if_pos (nI_le (by omega) (by omega)), bc_0, bc_1]
      unfold mo_house_353
      dsimp only
      rw [B_w_at, if_neg (by decide), B_w_at, if_neg (by decide), B_w_at, if_neg (by decide), B_w_at, if_neg (by decide), B_w_at, if_neg (by decide), e23, e24, nI_add]
    · rw [B_w_at, if_neg (by decide), B_w_at, if_neg (by decide), e6, show T + j = T + Q by omega]
    · rw [B_w_at, if_neg (by decide), B_w_same]
  | succ m ih =>
    intro j g h hj hg e24 e23 hR e6 e62
    obtain ⟨g, rfl⟩ : ∃ n', g = n' + 1 := ⟨g - 1, by omega⟩
    obtain ⟨v1, v2, v3, v4⟩ := e62 j (by omega)
    generalize hH : px_w (px_w (px_w (px_w (px_w (px_w (px_w (px_w h 55 (T + j) (nI (v (T + j)).2.1)) 56 (T + j) (nI (v (T + j)).2.2.1)) 57 (T + j) (v (T + j)).2.2.2.1) 52 (12 + (T + j)) (nI (v (T + j)).2.1)) 52 (22 + (T + j)) 0) 52 (32 + (T + j)) (nI (v (T + j)).1)) 52 (42 + (T + j)) (nI 1 <<< (nI (v (T + j)).1 &&& 31))) 51 6 (nI (T + j + 1)) = hN
    have hz : mo_house_180 (g + 1) (nI j) h = mo_house_180 g (nI (j + 1)) hN := by
      have c42 : px_c 42 = nI 42 := pc_n 42
      have c32 : px_c 32 = nI 32 := pc_n 32
      have c22 : px_c 22 = nI 22 := pc_n 22
      have c12 : px_c 12 = nI 12 := pc_n 12
      show (if h 51 24 ≤ nI j then _ else _) = _
      rw [e24, if_neg (nI_ge (by omega) (by omega))]
      simp (disch := omega) only [mo_house_226, mo_house_267, mo_house_300, mo_house_332, e6, v1, v2, v3, v4, po_52, pz_52, po_53, pz_53, po_54, pz_54, po_55, pz_55, po_56, pz_56, po_57, pz_57, po_58, pz_58, po_59, pz_59, po_60, pz_60, po_61, pz_61, po_62, pz_62, po_63, pz_63, po_64, pz_64, po_65, pz_65, po_66, pz_66, po_67, pz_67, po_68, pz_68, po_69, pz_69, po_70, pz_70, po_71, pz_71, po_72, pz_72, po_73, pz_73, po_74, pz_74, po_75, pz_75, po_76, pz_76, po_77, pz_77, po_78, pz_78, po_79, pz_79, po_80, pz_80, po_81, pz_81, B_bind, B_bind_if, B_ift, B_bz0, B_bz1, B_01_bz, B_01_e0, B_01_e1, if_pos, if_neg, reduceIte, Bool.false_eq_true, Bool.true_eq_false, bc_0, bc_m1, bc_1, bc_2, bc_3, bc_4, bc_5, bc_6, bc_7, bc_8, bc_9, bc_10, bc_11, bc_12, bc_13, bc_16, bc_22, bc_24, bc_32, bc_40, bc_41, bc_42, bc_43, bc_44, bc_45, bc_47, bc_48, bc_52, bc_57, bc_58, bc_59, bc_60, bc_61, bc_62, bc_63, bc_64, bc_76, bc_80, bc_97, bc_99, bc_105, bc_106, bc_107, bc_108, bc_109, bc_110, bc_111, bc_112, bc_113, bc_114, bc_115, bc_116, bc_117, bc_118, bc_119, bc_120, bc_121, bc_122, bc_255, bc_256, bc_400, bc_572, bc_999, bc_1024, bc_10000, bc_m2, bc_m3, bc_m8, bc_m100, bc_m200, c42, c32, c22, c12, pk_mul, nI_add, nI_clamp, B_w_cell]
      rw [← hH]
    have d0 : ∀ k, k ≠ 6 → hN 51 k = h 51 k := fun k hk => by rw [← hH, B_w_at, if_neg hk, B_w_cell _ _ _ (by decide), B_w_cell _ _ _ (by decide), B_w_cell _ _ _ (by decide), B_w_cell _ _ _ (by decide), B_w_cell _ _ _ (by decide), B_w_cell _ _ _ (by decide), B_w_cell _ _ _ (by decide)]
    have d2 : hN 51 6 = nI (T + (j + 1)) := by rw [← hH, B_w_same, Nat.add_assoc]
    have d3 : hN 62 = h 62 := by rw [← hH, B_w_cell _ _ _ (by decide), B_w_cell _ _ _ (by decide), B_w_cell _ _ _ (by decide), B_w_cell _ _ _ (by decide), B_w_cell _ _ _ (by decide), B_w_cell _ _ _ (by decide), B_w_cell _ _ _ (by decide), B_w_cell _ _ _ (by decide)]
    have F0 : B_fr (E_mit (T + j)) h hN := by
      rw [← hH]
      refine ((((((((B_fr.refl _ h).w ?_).w ?_).w ?_).w ?_).w ?_).w ?_).w ?_).w rfl
      · exact B_ble_t (Nat.le_refl _)
      · exact B_ble_t (Nat.le_refl _)
      · exact B_ble_t (Nat.le_refl _)
      · exact E_mit_52 (by omega)
      · exact E_mit_52 (by omega)
      · exact E_mit_52 (by omega)
      · exact E_mit_52 (by omega)
    obtain ⟨h', a1, a2, a3, a4, a5, a6⟩ := ih (j + 1) g hN (by omega) (by omega) (by rw [d0 _ (by decide), e24]) (by rw [d0 _ (by decide), e23]) hR d2 (fun i hi => by unfold M_hr; rw [d3]; exact e62 i hi)
    refine ⟨h', by rw [hz, a1], a2, a3, by rw [a4, d0 _ (by decide)], fun p h1 h2 => ?_, F0.trans (a6.mono (E_mit_mono (by omega)))⟩
    by_cases w : p = T + j
    · subst w
      rw [a6 55 _ (B_ble_f (by omega)), a6 56 _ (B_ble_f (by omega)), a6 57 _ (B_ble_f (by omega)), a6 52 _ (E_mit_52f (by omega)), a6 52 _ (E_mit_52f (by omega)), a6 52 _ (E_mit_52f (by omega)), a6 52 _ (E_mit_52f (by omega)), ← hH]
      refine ⟨?_, ?_, ?_, ?_, ?_, ?_, ?_⟩
      · rw [B_w_cell _ _ _ (by decide), B_w_cell _ _ _ (by decide), B_w_cell _ _ _ (by decide), B_w_cell _ _ _ (by decide), B_w_cell _ _ _ (by decide), B_w_cell _ _ _ (by decide), B_w_cell _ _ _ (by decide), B_w_same]
      · rw [B_w_cell _ _ _ (by decide), B_w_cell _ _ _ (by decide), B_w_cell _ _ _ (by decide), B_w_cell _ _ _ (by decide), B_w_cell _ _ _ (by decide), B_w_cell _ _ _ (by decide), B_w_same]
      · rw [B_w_cell _ _ _ (by decide), B_w_cell _ _ _ (by decide), B_w_cell _ _ _ (by decide), B_w_cell _ _ _ (by decide), B_w_cell _ _ _ (by decide), B_w_same]
      · rw [B_w_cell _ _ _ (by decide), B_w_at, if_neg (by omega), B_w_at, if_neg (by omega), B_w_at, if_neg (by omega), B_w_same]
      · rw [B_w_cell _ _ _ (by decide), B_w_at, if_neg (by omega), B_w_at, if_neg (by omega), B_w_same]
      · rw [B_w_cell _ _ _ (by decide), B_w_at, if_neg (by omega), B_w_same]
      · rw [B_w_cell _ _ _ (by decide), B_w_same]
    · exact a5 p (by omega) h2
end MOVE
