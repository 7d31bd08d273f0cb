/-! Layer B: house: the lines, the reference -/
section HMOD
variable {sg : Nat → Nat} {m k c n mo P T : Nat} {a : hA} {h h0 : pH}
theorem B_ble_f {a b : Nat} (h : b < a) : Nat.ble a b = false := by
  cases z : Nat.ble a b with
  | false => rfl
  | true => exact absurd (Nat.ble_eq.mp z) (by omega)
theorem B_ble_t {a b : Nat} (h : a ≤ b) : Nat.ble a b = true := Nat.ble_eq.mpr h
def E_mh : Nat → Nat → Bool := fun a k => match a with
  | 51 => [18, 19, 23, 24].contains k
  | 61 => true
  | 62 => true
  | _ => false
theorem E_mp_mh {q : Nat} : ∀ a k, E_mp q a k = true → E_mh a k = true := fun a k e => by
  unfold E_mp at e
  split at e
  · have : k = 18 ∨ k = 19 ∨ k = 23 := by simpa using e
    rcases this with rfl | rfl | rfl <;> rfl
  · rfl
  · cases e
theorem E_mt_mh {q : Nat} : ∀ a k, E_mt q a k = true → E_mh a k = true := fun a k e => by
  unfold E_mt at e
  split at e
  · have : k = 18 ∨ k = 19 ∨ k = 24 := by simpa using e
    rcases this with rfl | rfl | rfl <;> rfl
  · rfl
  · cases e
theorem S_hp_f {f : Nat} (hk : k ≤ m) (h : (S_hp sg m k).2.2.2 = some f) : f ≤ m := by
  unfold S_hp at h
  cases hf : (S_nm sg m 1 99 k).2.2 with
  | some f' =>
    rw [hf] at h
    cases h
    exact S_nm_f hk hf
  | none =>
    rw [hf] at h
    have hle := (S_nm_le (sg := sg) (lo := 1) (hi := 99) hk).2
    generalize S_nm sg m 1 99 k = z at *
    dsimp only at h
    by_cases q : z.2.1 < m ∧ sg z.2.1 = 64
    · rw [if_pos q] at h
      by_cases w : S_o1 sg m 0 1 (z.2.1 + 1) = true
      · rw [if_pos w] at h
        cases h
      · rw [if_neg w] at h
        cases h
        omega
    · rw [if_neg q] at h
      cases h
theorem S_ht3_f {o w p f : Nat} (hk : k ≤ m) (h : (S_ht3 sg m c o w p k).2.2.2.2.2 = some f) : f ≤ m := by
  unfold S_ht3 S_no at h
  by_cases q : k < m ∧ sg k = 62
  · rw [if_pos q] at h
    by_cases z : S_lt sg m c (k + 1) = true ∧ ¬ sg (k + 1) - 97 = o
    · rw [if_pos z] at h
      cases h
    · rw [if_neg z] at h
      cases h
      omega
  · rw [if_neg q] at h
    cases h
theorem S_ht_f {f : Nat} (hk : k ≤ m) (h : (S_ht sg m c k).2.2.2.2.2 = some f) : f ≤ m := by
  unfold S_ht at h
  by_cases q : S_lt sg m c k = true
  · rw [if_pos q] at h
    have hq := S_lt_lt q
    cases hf : (S_nm sg m 1 40 (k + 1)).2.2 with
    | some f' =>
      rw [hf] at h
      cases h
      exact S_nm_f (by omega) hf
    | none =>
      rw [hf] at h
      have hle := (S_nm_le (sg := sg) (lo := 1) (hi := 40) (show k + 1 ≤ m by omega)).2
      generalize S_nm sg m 1 40 (k + 1) = z at *
      dsimp only at h
      unfold S_ht2 S_no at h
      by_cases w : z.2.1 < m ∧ sg z.2.1 = 42
      · rw [if_pos w] at h
        by_cases y : S_o1 sg m 0 9 (z.2.1 + 1) = true
        · rw [if_pos y] at h
          have hy := S_o1_lt y
          exact S_ht3_f (by omega) h
        · rw [if_neg y] at h
          cases h
          omega
      · rw [if_neg w] at h
        cases h
        omega
  · rw [if_neg q] at h
    unfold S_no at h
    cases h
    omega
theorem S_hs_f {f : Nat} (hk : k ≤ m) (h : (S_hs sg m k a).2.2 = some f) : f ≤ m := by
  unfold S_hs at h
  by_cases q : a.1 < 6 ∧ k < m ∧ sg k = 112
  · rw [if_pos q] at h
    cases hf : (S_hp sg m (k + 1)).2.2.2 with
    | some f' =>
      rw [hf] at h
      cases h
      exact S_hp_f (by omega) hf
    | none => rw [hf] at h; cases h
  · rw [if_neg q] at h
    by_cases q2 : a.2.1 < 10 ∧ k < m ∧ sg k = 116
    · rw [if_pos q2] at h
      cases hf : (S_ht sg m a.1 (k + 1)).2.2.2.2.2 with
      | some f' =>
        rw [hf] at h
        cases h
        exact S_ht_f (by omega) hf
      | none => rw [hf] at h; cases h
    · rw [if_neg q2] at h
      cases h
      omega
theorem S_hl_f : ∀ (d x k : Nat) (a : hA) {f : Nat}, H_ok P T a → k ≤ m → (S_hl sg n m d x k a).2.2 = some f → f ≤ m := by
  intro d
  induction d with
  | zero =>
    intro x k a f _ hk h
    cases h
    omega
  | succ d ih =>
    intro x k a f ho hk h
    unfold S_hl at h
    cases hf : (S_hs sg m k a).2.2 with
    | some f' =>
      rw [hf] at h
      cases h
      exact S_hs_f hk hf
    | none =>
      rw [hf] at h
      obtain ⟨s1, s2, s3⟩ := S_hs_ok ho hk hf
      dsimp only at h
      by_cases q : (S_hs sg m k a).2.1 < m ∧ sg (S_hs sg m k a).2.1 = 59
      · rw [if_pos q] at h
        exact ih (x + 1) _ _ s1 (by omega) h
      · rw [if_neg q] at h
        dsimp only at h
        by_cases w : (S_hs sg m k a).2.1 = n
        · rw [if_pos w] at h
          cases h
        · rw [if_neg w] at h
          cases h
          exact s2
/-- a thing's four, as the reference keeps them -/
def M_hr (h : pH) (q : Nat) (t : pT) : Prop := h 62 (4 * q) = nI t.1 ∧ h 62 (4 * q + 1) = nI t.2.1 ∧ h 62 (4 * q + 2) = nI t.2.2.1 ∧ h 62 (4 * q + 3) = t.2.2.2.1
def M_hn (h0 h : pH) (P T : Nat) (a : hA) : Prop := h 51 4 = nI P ∧ h 51 6 = nI T ∧ h 51 23 = nI (a.1 - P) ∧ h 51 24 = nI (a.2.1 - T) ∧ (∀ j, j < a.1 - P → h 61 (2 * j) = nI (a.2.2.1 (P + j)).1 ∧ h 61 (2 * j + 1) = nI (a.2.2.1 (P + j)).2) ∧ (∀ j, j < a.2.1 - T → M_hr h j (a.2.2.2 (T + j))) ∧ B_fr E_mh h0 h
def M_hl (h0 h : pH) (P T n mo k : Nat) (sg : Nat → Nat) (a : hA) : Prop := M_rd h n mo k sg none ∧ M_hn h0 h P T a
theorem mo_line_s (ho : H_ok P T a) (M : M_hl h0 h P T n mo k sg a) (hn : n ≤ 80) (hmo : mo < 2 ^ 31) (hk : k ≤ min n mo) (hs : ∀ j, j < n → sg j < 256) : (∀ f, (S_hs sg (min n mo) k a).2.2 = some f → ∃ h' k2, mo_readLine h = some (0, h') ∧ M_rd h' n mo k2 sg (some f) ∧ B_fr E_mh h0 h') ∧ ((S_hs sg (min n mo) k a).2.2 = none → ∃ h', mo_readLine h = some (0, h') ∧ M_hl h0 h' P T n mo (S_hs sg (min n mo) k a).2.1 sg (S_hs sg (min n mo) k a).1) := by
  obtain ⟨o1, o2, o3, o4, o5, o6⟩ := ho
  obtain ⟨M1, eP, eT, e23, e24, mp, mt, F⟩ := M
  unfold S_hs
  by_cases q : a.1 < 6 ∧ k < min n mo ∧ sg k = 112
  · rw [if_pos q]
    obtain ⟨h', k2, x1, x2, x3, x4⟩ := mo_person_line (q := a.1 - P) (by omega) e23 ⟨P, eP, by omega⟩ M1 hn hmo q.2.1 hs q.2.2
    have F2 : B_fr E_mh h0 h' := F.trans (x4.mono E_mp_mh)
    cases hf : (S_hp sg (min n mo) (k + 1)).2.2.2 with
    | some f =>
      refine ⟨fun f' w => ?_, fun w => by cases w⟩
      cases w
      rw [hf] at x2
      exact ⟨h', k2, x1, x2, F2⟩
    | none =>
      refine ⟨fun f' w => (by cases w), fun _ => ?_⟩
      rw [hf] at x2
      obtain ⟨y1, y2, y3, y4⟩ := x3 hf
      rw [y1] at x2
      refine ⟨h', x1, x2, by rw [x4 51 4 rfl, eP], by rw [x4 51 6 rfl, eT], ?_, by rw [x4 51 24 rfl, e24], fun j hj => ?_, fun j hj => ?_, F2⟩
      · rw [y4]
        show nI (a.1 - P + 1) = nI (a.1 + 1 - P)
        congr 1
        omega
      · change j < a.1 + 1 - P at hj
        dsimp only
        by_cases w : j = a.1 - P
        · subst w
          rw [if_pos (show P + (a.1 - P) = a.1 by omega)]
          exact ⟨y2, y3⟩
        · rw [if_neg (show ¬ P + j = a.1 by omega), x4 61 (2 * j) (by
            show (Nat.beq (2 * j) (2 * (a.1 - P)) || Nat.beq (2 * j) (2 * (a.1 - P) + 1)) = false
            rw [beq_ne (show ¬ 2 * j = 2 * (a.1 - P) by omega), beq_ne (show ¬ 2 * j = 2 * (a.1 - P) + 1 by omega)]
            rfl), x4 61 (2 * j + 1) (by
            show (Nat.beq (2 * j + 1) (2 * (a.1 - P)) || Nat.beq (2 * j + 1) (2 * (a.1 - P) + 1)) = false
            rw [beq_ne (show ¬ 2 * j + 1 = 2 * (a.1 - P) by omega), beq_ne (show ¬ 2 * j + 1 = 2 * (a.1 - P) + 1 by omega)]
            rfl)]
          exact mp j (by omega)
      · have := mt j hj
        unfold M_hr at *
        rw [x4 62 _ rfl, x4 62 _ rfl, x4 62 _ rfl, x4 62 _ rfl]
        exact this
  · rw [if_neg q]
    by_cases q2 : a.2.1 < 10 ∧ k < min n mo ∧ sg k = 116
    · rw [if_pos q2]
      obtain ⟨h', x1, ⟨k2, x2, x5⟩, x3, x4⟩ := mo_thing_line (q := a.2.1 - T) (q0 := a.1 - P) (P := P) (T := T) (by omega) (by omega) eP e23 eT (by omega) e24 M1 hn hmo q2.2.1 hs q2.2.2
      rw [show P + (a.1 - P) = a.1 by omega] at x2 x3 x5
      have F2 : B_fr E_mh h0 h' := F.trans (x4.mono E_mt_mh)
      cases hf : (S_ht sg (min n mo) a.1 (k + 1)).2.2.2.2.2 with
      | some f =>
        refine ⟨fun f' w => ?_, fun w => by cases w⟩
        cases w
        rw [hf] at x2
        exact ⟨h', k2, x1, x2, F2⟩
      | none =>
        refine ⟨fun f' w => (by cases w), fun _ => ?_⟩
        rw [hf] at x2
        obtain ⟨y1, y2, y3, y4, y5⟩ := x3 hf
        rw [x5 hf] at x2
        refine ⟨h', x1, x2, by rw [x4 51 4 rfl, eP], by rw [x4 51 6 rfl, eT], by rw [x4 51 23 rfl, e23], ?_, fun j hj => ?_, fun j hj => ?_, F2⟩
        · rw [y5]
          show nI (a.2.1 - T + 1) = nI (a.2.1 + 1 - T)
          congr 1
          omega
        · rw [x4 61 _ rfl, x4 61 _ rfl]
          exact mp j hj
        · change j < a.2.1 + 1 - T at hj
          dsimp only
          by_cases w : j = a.2.1 - T
          · subst w
            rw [if_pos (show T + (a.2.1 - T) = a.2.1 by omega)]
            exact ⟨y1, y2, y3, y4⟩
          · have hlt : j < a.2.1 - T := by omega
            have hb : ∀ x, x ≤ 4 * j + 3 → E_mt (a.2.1 - T) 62 x = false := fun x hx => by
              show (Nat.ble (4 * (a.2.1 - T)) x && Nat.ble x (4 * (a.2.1 - T) + 3)) = false
              rw [B_ble_f (show x < 4 * (a.2.1 - T) by omega)]
              rfl
            have := mt j hlt
            unfold M_hr at *
            rw [if_neg (show ¬ T + j = a.2.1 by omega), x4 62 _ (hb _ (by omega)), x4 62 _ (hb _ (by omega)), x4 62 _ (hb _ (by omega)), x4 62 _ (hb _ (by omega))]
            exact this
    · rw [if_neg q2]
      refine ⟨fun f w => ?_, fun w => by cases w⟩
      cases w
      refine ⟨_, k, mo_readLine_no (P := P) (T := T) (q := a.2.1 - T) (q0 := a.1 - P) (by omega) eP e23 eT (by omega) e24 M1 hn hmo hk hs (fun w => q ⟨by omega, w.2⟩) (fun w => q2 ⟨by omega, w.2⟩), M1.fl k, F.w rfl⟩
theorem M_hl.to (M : M_hl h0 h P T n mo k sg a) (j : Nat) : M_hl h0 (px_w h 51 18 (nI j)) P T n mo j sg a := by
  obtain ⟨M1, eP, eT, e23, e24, mp, mt, F⟩ := M
  refine ⟨M1.to j, by rw [B_w_at, if_neg (by decide), eP], by rw [B_w_at, if_neg (by decide), eT], by rw [B_w_at, if_neg (by decide), e23], by rw [B_w_at, if_neg (by decide), e24], fun i hi => ?_, fun i hi => ?_, F.w rfl⟩
  · rw [B_w_cell _ _ _ (show (61 : Nat) ≠ 51 by decide)]
    exact mp i hi
  · have := mt i hi
    unfold M_hr at *
    rw [B_w_cell _ _ _ (show (62 : Nat) ≠ 51 by decide)]
    exact this
theorem mo_house_89_f {f : Nat} (hf : f < 2 ^ 31) (M : M_rd h n mo k sg (some f)) : mo_house_89 h = some (-1 - nI f, h) := by
  unfold mo_house_89
  rw [mo_fine_1 hf M, B_bind, if_pos rfl, bc_m1, M.2.2.2.2.1]
  rfl
theorem mo_house_70_f {f : Nat} (hf : f < 2 ^ 31) (M : M_rd h n mo k sg (some f)) : mo_house_70 h = some (-1 - nI f, h) := by
  unfold mo_house_70
  rw [mo_fault_1 hf M, B_bind, mo_house_89_f hf M]
  split <;> rfl
theorem mo_house_45_s (hn : n ≤ 80) (hmo : mo < 2 ^ 31) (hs : ∀ j, j < n → sg j < 256) : ∀ (d x k g : Nat) (a : hA) (h : pH), H_ok P T a → (6 - a.1) + (10 - a.2.1) + 1 ≤ d → d + 1 < g → k ≤ min n mo → M_hl h0 h P T n mo k sg a → (∀ f, (S_hl sg n (min n mo) d x k a).2.2 = some f → ∃ h', mo_house_45 g (nI 1) h = some (-1 - nI f, h') ∧ B_fr E_mh h0 h') ∧ ((S_hl sg n (min n mo) d x k a).2.2 = none → ∃ h' k', M_hl h0 h' P T n mo k' sg (S_hl sg n (min n mo) d x k a).1 ∧ mo_house_45 g (nI 1) h = mo_house_105 px_F (nI 0) h') := by
  intro d
  induction d with
  | zero => intro x k g a h _ hd; omega
  | succ d ih =>
    intro x k g a h ho hd hg hk M
    obtain ⟨g, rfl⟩ : ∃ n', g = n' + 2 := ⟨g - 2, by omega⟩
    obtain ⟨l1, l2⟩ := mo_line_s ho M hn hmo hk hs
    have e59 : px_c 59 = nI 59 := pc_n 59
    have hz : mo_house_45 (g + 2) (nI 1) h = px_bind (mo_readLine h) fun _ h4 => px_bind (mo_passes (nI 59) h4) fun z5 h6 => mo_house_45 (g + 1) z5 h6 := by
      show (if nI 1 = 0 then _ else _) = _
      rw [if_neg (by decide), mo_fine_0 M.1, B_bind, if_neg (by decide), e59]
    have h70 : ∀ h2, mo_house_45 (g + 1) 0 h2 = mo_house_70 h2 := fun h2 => by
      show (if (0 : Int32) = 0 then _ else _) = _
      rw [if_pos rfl]
    rw [hz]
    unfold S_hl
    cases hf : (S_hs sg (min n mo) k a).2.2 with
    | some f =>
      obtain ⟨h', k2, y1, y2, y3⟩ := l1 f hf
      have hfl := S_hs_f hk hf
      refine ⟨fun f' w => ?_, fun w => by cases w⟩
      cases w
      refine ⟨h', ?_, y3⟩
      rw [y1, B_bind, mo_passes_1 (by omega) y2, B_bind, h70, mo_house_70_f (by omega) y2]
    | none =>
      obtain ⟨h', y1, y2⟩ := l2 hf
      obtain ⟨s1, s2, s3⟩ := S_hs_ok ho hk hf
      dsimp only
      generalize S_hs sg (min n mo) k a = z at *
      rw [y1, B_bind, mo_passes_0 y2.1 hn hmo (by omega) hs (z := 59) (by omega)]
      by_cases q : z.2.1 < min n mo ∧ sg z.2.1 = 59
      · rw [if_pos q, if_pos q, B_bind]
        have := s1.2.1
        have := s1.2.2.2.1
        have := ho.2.1
        have := ho.2.2.2.1
        exact ih (x + 1) (z.2.1 + 1) (g + 1) z.1 _ s1 (by omega) (by omega) (by omega) (y2.to (z.2.1 + 1))
      · rw [if_neg q, if_neg q, B_bind, h70]
        unfold mo_house_70
        rw [y2.1.2.1, y2.1.2.2.2.1]
        by_cases w : z.2.1 = n
        · rw [if_pos (nI_le (by omega) (by omega)), if_pos w]
          refine ⟨fun f e => (by cases e), fun _ => ⟨h', z.2.1, y2, ?_⟩⟩
          unfold mo_house_89
          rw [mo_fine_0 y2.1, B_bind, if_neg (by decide), bc_0, nI_0]
        · rw [if_neg (nI_ge (by omega) (by omega)), if_neg w]
          refine ⟨fun f e => ?_, fun e => by cases e⟩
          cases e
          refine ⟨px_w h' 51 19 (nI z.2.1), ?_, y2.2.2.2.2.2.2.2.w rfl⟩
          rw [mo_fault_0 y2.1, B_bind, mo_house_89_f (by omega) (y2.1.fl z.2.1)]
end HMOD
