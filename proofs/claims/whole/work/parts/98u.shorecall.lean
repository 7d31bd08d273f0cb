/-! Layer B: ashore, about: the class, the calls -/
def V_cl (F : Nat → Nat) : Nat → List Int32
  | 0 => []
  | k + 1 => V_cl F k ++ (if F k = 0 then [] else [nI (F k)])
theorem V_cl_len (F : Nat → Nat) : ∀ k, (V_cl F k).length ≤ k := by
  intro k
  induction k with
  | zero => exact Nat.le_refl _
  | succ k ih =>
    show (V_cl F k ++ _).length ≤ k + 1
    rw [List.length_append]
    split
    · show _ + 0 ≤ _
      omega
    · show _ + 1 ≤ _
      omega
theorem V_cl_up {F : Nat → Nat} {k : Nat} (hF : ∀ t, k ≤ t → F t = 0) : ∀ j, V_cl F (k + j) = V_cl F k ∧ B_set (fun t => decide (F t ≠ 0)) (k + j) = B_set (fun t => decide (F t ≠ 0)) k := by
  intro j
  induction j with
  | zero => exact ⟨rfl, rfl⟩
  | succ j ih =>
    constructor
    · show V_cl F (k + j) ++ (if F (k + j) = 0 then [] else [nI (F (k + j))]) = _
      rw [if_pos (hF (k + j) (by omega)), List.append_nil, ih.1]
    · rw [← Nat.add_assoc, B_set_snoc, if_neg (by simp [hF (k + j) (by omega)]), Int32.or_zero, ih.2]
section SHOREC
variable {i : Nat} {h : pH} {P T K Y D lg p b f n m ki : Nat} {S Z : pH} {ev : pE} {ab : Int32} {r : List Nat}
theorem V_hit_said (W : R_w P T K Y S) (hv : Z_v S T ab r) (e : V_hit ev S Y K f b ki ab r = true) : S_dist S Y f b ≤ S_wds S r ∧ ∃ s, s < T ∧ (S_go ev S (S_dist S Y f b) ab r).2.1 = some s ∧ V_sd ev S Y f b ab r = s := by
  unfold V_hit Z_bu at e
  simp only [Bool.and_eq_true, decide_eq_true_eq, Bool.not_eq_true', decide_eq_false_iff_not] at e
  refine ⟨e.1.1, ?_⟩
  cases hs : (S_go ev S (S_dist S Y f b) ab r).2.1 with
  | none => exact absurd hs e.1.2
  | some s =>
    refine ⟨s, foldl_said r (0, none, S) (fun t w => by cases w) hv.lt s hs, rfl, ?_⟩
    unfold V_sd
    rw [hs]
    rfl
theorem wu_endsOn_s (W : R_w P T K Y S) (hD : S_dist S Y f b ≤ 60) (hf : f < 2 + K) (hb : b < 2) (C : C_h h P T K Y S ev) (h9 : h 22 9 = nI (S_dist S Y f b)) (h7 : h 22 7 = nI f) (h8 : h 22 8 = nI b) (nd : Nd h S T (S_dist S Y f b) ev ab lg 3 r) (hv : Z_v S T ab r) (hne : r ≠ []) : wu_endsOn (nI ki) h = some (B_01 (V_hit ev S Y K f b ki ab r), h) := by
  have hbst := wk_burst W hD h9 nd hv hne
  unfold wu_endsOn
  rw [hbst, B_bind]
  unfold V_hit
  cases hbu : Z_bu ev S (S_dist S Y f b) ab r with
  | false =>
    rw [if_pos (show B_01 false = 0 from rfl), Bool.false_and]
    unfold wu_endsOn_48 wu_endsOn_49
    rw [bc_0, B_bz0]
    rfl
  | true =>
    have hw : S_dist S Y f b ≤ S_wds S r := by
      unfold Z_bu at hbu
      simp only [Bool.and_eq_true, decide_eq_true_eq] at hbu
      exact hbu.1
    have kk := nd.k2 (Z_rc_of hw)
    obtain ⟨-, s2, -, -⟩ := wk_said nd.k1 hv.1 hne
    rw [if_neg (show ¬ B_01 true = 0 by decide), s2, B_bind, (kk.top hne).1, h7, h8, rv_landing_s hf hb (Nat.le_trans (S_go_le r) hD) C.1 W, B_bind, bc_2, nI_add, Bool.true_and]
    unfold wu_endsOn_48 wu_endsOn_49
    rw [bc_0, B_bz0, bc_1, B_bz1]
    by_cases c : S_land S Y K f b (S_go ev S (S_dist S Y f b) ab r).1 = nI (2 + ki)
    · rw [if_pos c, decide_eq_true c]
      rfl
    · rw [if_neg c, decide_eq_false c]
      rfl
theorem wk_tellRow_s {l : List Int32} (hr : r.length ≤ 4) (k9 : h 25 9 = nI r.length) (e : ∀ j, j < r.length → h 27 j = nI (r.getD j 0)) (R : B_rc h l) (hl : l.length + r.length ≤ 10) : ∃ h', wk_tellRow h = some (0, h') ∧ B_rc h' (l ++ r.map nI) ∧ B_fr B_frw h h' := by
  have H : ∀ (j k m : Nat) (g : pH), k + j = r.length → j < m → B_fr B_frw h g → B_rc g (l ++ (r.take k).map nI) → ∃ h', wk_tellRow_2 m (nI k) g = some (0, h') ∧ B_rc h' (l ++ r.map nI) ∧ B_fr B_frw h h' := by
    intro j
    induction j with
    | zero =>
      intro k m g hk hm F R
      obtain ⟨m, rfl⟩ : ∃ n', m = n' + 1 := ⟨m - 1, by omega⟩
      rw [List.take_of_length_le (by omega)] at R
      refine ⟨g, ?_, R, F⟩
      show (if g 25 9 ≤ nI k then _ else _) = _
      rw [F 25 9 rfl, k9, if_pos (nI_le (by omega) (by omega))]
    | succ j ih =>
      intro k m g hk hm F R
      obtain ⟨m, rfl⟩ : ∃ n', m = n' + 1 := ⟨m - 1, by omega⟩
      obtain ⟨h1, a1, a2, a3⟩ := tl_add_s (nI (r.getD k 0)) R (by rw [List.length_append, List.length_map, List.length_take]; omega)
      rw [List.append_assoc, ← Z_map_snoc (by omega)] at a2
      obtain ⟨h', x1, x2⟩ := ih (k + 1) m h1 (by omega) (by omega) (F.trans a3) a2
      refine ⟨h', ?_, x2⟩
      show (if g 25 9 ≤ nI k then _ else _) = _
      rw [F 25 9 rfl, k9, if_neg (nI_ge (by omega) (by omega)), wa_27 (by omega), B_bind, F 27 k rfl, e k (by omega), a1, B_bind, bc_1, nI_add]
      exact x1
  unfold wk_tellRow
  rw [bc_0, ← nI_0]
  exact H r.length 0 px_F h (by omega) (px_F_lt (by omega)) (B_fr.refl _ _) (by rw [List.take_zero, List.map_nil, List.append_nil]; exact R)
theorem wk_clearCounts_s (h : pH) : ∃ h', wk_clearCounts h = some (0, h') ∧ (∀ t, t < 10 → h' 32 t = 0) ∧ B_fr (E_a 32) h h' := by
  have H : ∀ (j k m : Nat) (g : pH), k + j = 10 → j < m → (∀ t, t < k → g 32 t = 0) → B_fr (E_a 32) h g → ∃ h', wk_clearCounts_2 m (nI k) g = some (0, h') ∧ (∀ t, t < 10 → h' 32 t = 0) ∧ B_fr (E_a 32) h h' := by
    intro j
    induction j with
    | zero =>
      intro k m g hk hm e F
      obtain ⟨m, rfl⟩ : ∃ n', m = n' + 1 := ⟨m - 1, by omega⟩
      refine ⟨g, ?_, fun t ht => e t (by omega), F⟩
      show (if px_c 10 ≤ nI k then _ else _) = _
      rw [bc_10, if_pos (nI_le (by omega) (by omega))]
    | succ j ih =>
      intro k m g hk hm e F
      obtain ⟨m, rfl⟩ : ∃ n', m = n' + 1 := ⟨m - 1, by omega⟩
      obtain ⟨h', x1, x2⟩ := ih (k + 1) m (px_w g 32 k 0) (by omega) (by omega) (fun t ht => by
        rw [B_w_at]
        by_cases q : t = k
        · rw [if_pos q]
        · rw [if_neg q]
          exact e t (by omega)) (F.w rfl)
      refine ⟨h', ?_, x2⟩
      show (if px_c 10 ≤ nI k then _ else _) = _
      rw [bc_10, if_neg (nI_ge (by omega) (by omega)), bc_0, wp_32 (by omega), B_bind, bc_1, nI_add]
      exact x1
  unfold wk_clearCounts
  rw [bc_0, ← nI_0]
  exact H 10 0 px_F h rfl (px_F_lt (by omega)) (fun t ht => by omega) (B_fr.refl _ _)
theorem wk_tellCounts_s {F : Nat → Nat} (hF : ∀ t, F t < 2 ^ 31) (e : ∀ t, t < 10 → h 32 t = nI (F t)) : ∃ h', wk_tellCounts h = some (B_set (fun t => decide (F t ≠ 0)) 10, h') ∧ B_rc h' (V_cl F 10) ∧ B_fr B_frw h h' := by
  have H : ∀ (j k m : Nat) (g : pH), k + j = 10 → j < m → B_rc g (V_cl F k) → B_fr B_frw h g → ∃ h', wk_tellCounts_8 m (B_set (fun t => decide (F t ≠ 0)) k) (nI k) g = some (B_set (fun t => decide (F t ≠ 0)) 10, h') ∧ B_rc h' (V_cl F 10) ∧ B_fr B_frw h h' := by
    intro j
    induction j with
    | zero =>
      intro k m g hk hm R Fr
      obtain ⟨m, rfl⟩ : ∃ n', m = n' + 1 := ⟨m - 1, by omega⟩
      have ek : k = 10 := by omega
      subst ek
      refine ⟨g, ?_, R, Fr⟩
      show (if px_c 10 ≤ nI 10 then _ else _) = _
      rw [bc_10, if_pos (nI_le (by omega) (by omega))]
    | succ j ih =>
      intro k m g hk hm R Fr
      obtain ⟨m, rfl⟩ : ∃ n', m = n' + 1 := ⟨m - 1, by omega⟩
      have hlen := V_cl_len F k
      have ec : V_cl F (k + 1) = V_cl F k ++ (if F k = 0 then [] else [nI (F k)]) := rfl
      by_cases c : F k = 0
      · rw [if_pos c, List.append_nil] at ec
        have eb : B_set (fun t => decide (F t ≠ 0)) (k + 1) = B_set (fun t => decide (F t ≠ 0)) k := by
          rw [B_set_snoc, if_neg (by simp [c]), Int32.or_zero]
        obtain ⟨h', x1, x2⟩ := ih (k + 1) m g (by omega) (by omega) (by rw [ec]; exact R) Fr
        refine ⟨h', ?_, x2⟩
        show (if px_c 10 ≤ nI k then _ else _) = _
        rw [bc_10, if_neg (nI_ge (by omega) (by omega)), wa_32 (by omega), B_bind, Fr 32 k rfl, e k (by omega), c, if_pos (by decide)]
        unfold wk_tellCounts_43
        rw [bc_1, nI_add, ← eb]
        exact x1
      · rw [if_neg c] at ec
        have eb : B_set (fun t => decide (F t ≠ 0)) (k + 1) = B_set (fun t => decide (F t ≠ 0)) k ||| (nI 1 <<< (nI k &&& 31)) := by
          rw [B_set_snoc, if_pos (by simp [c])]
        obtain ⟨h1, a1, a2, a3⟩ := tl_add_s (nI (F k)) R (by omega)
        obtain ⟨h', x1, x2⟩ := ih (k + 1) m h1 (by omega) (by omega) (by rw [ec]; exact a2) (Fr.trans a3)
        refine ⟨h', ?_, x2⟩
        show (if px_c 10 ≤ nI k then _ else _) = _
        rw [bc_10, if_neg (nI_ge (by omega) (by omega)), wa_32 (by omega), B_bind, Fr 32 k rfl, e k (by omega), if_neg (fun w => by rw [bn_le0 (hF k)] at w; exact c w)]
        dsimp only
        rw [wa_32 (by omega), B_bind, Fr 32 k rfl, e k (by omega), a1, B_bind]
        unfold wk_tellCounts_43
        rw [bc_1, nI_add, ← eb]
        exact x1
  unfold wk_tellCounts
  rw [tl_clear_s, B_bind, bc_0]
  have := H 10 0 px_F (px_w h 45 1 0) rfl (px_F_lt (by omega)) (B_rc_nil h) ((B_fr.refl _ _).w rfl)
  rw [nI_0] at this
  exact this
theorem mo_about_26_s {F : Nat → Nat} (hF : ∀ t, F t < 2 ^ 31) (hT : T ≤ 10) (hF0 : ∀ t, T ≤ t → F t = 0) (e6 : h 51 6 = nI T) (e : ∀ t, t < 10 → h 71 t = nI (F t)) (R : B_rm h []) : ∃ h', mo_about_26 px_F 0 0 h = some (B_set (fun t => decide (F t ≠ 0)) 10, h') ∧ B_rm h' (V_cl F 10) ∧ B_fr B_frm h h' := by
  have eT := V_cl_up (F := F) (k := T) hF0 (10 - T)
  rw [show T + (10 - T) = 10 by omega] at eT
  rw [eT.1, eT.2]
  have H : ∀ (j k m : Nat) (g : pH), k + j = T → j < m → B_rm g (V_cl F k) → B_fr B_frm h g → ∃ h', mo_about_26 m (B_set (fun t => decide (F t ≠ 0)) k) (nI k) g = some (B_set (fun t => decide (F t ≠ 0)) T, h') ∧ B_rm h' (V_cl F T) ∧ B_fr B_frm h h' := by
    intro j
    induction j with
    | zero =>
      intro k m g hk hm R Fr
      obtain ⟨m, rfl⟩ : ∃ n', m = n' + 1 := ⟨m - 1, by omega⟩
      have ek : k = T := by omega
      subst ek
      refine ⟨g, ?_, R, Fr⟩
      show (if g 51 6 ≤ nI k then _ else _) = _
      rw [Fr 51 6 rfl, e6, if_pos (nI_le (by omega) (by omega))]
    | succ j ih =>
      intro k m g hk hm R Fr
      obtain ⟨m, rfl⟩ : ∃ n', m = n' + 1 := ⟨m - 1, by omega⟩
      have hlen := V_cl_len F k
      have ec : V_cl F (k + 1) = V_cl F k ++ (if F k = 0 then [] else [nI (F k)]) := rfl
      by_cases c : F k = 0
      · rw [if_pos c, List.append_nil] at ec
        have eb : B_set (fun t => decide (F t ≠ 0)) (k + 1) = B_set (fun t => decide (F t ≠ 0)) k := by
          rw [B_set_snoc, if_neg (by simp [c]), Int32.or_zero]
        obtain ⟨h', x1, x2⟩ := ih (k + 1) m g (by omega) (by omega) (by rw [ec]; exact R) Fr
        refine ⟨h', ?_, x2⟩
        show (if g 51 6 ≤ nI k then _ else _) = _
        rw [Fr 51 6 rfl, e6, if_neg (nI_ge (by omega) (by omega)), po_71 (by omega), B_ift, nI_clamp (by omega), Fr 71 k rfl, e k (by omega), c, if_pos nI_0]
        unfold mo_about_66
        rw [bc_1, nI_add, ← eb]
        exact x1
      · rw [if_neg c] at ec
        have eb : B_set (fun t => decide (F t ≠ 0)) (k + 1) = B_set (fun t => decide (F t ≠ 0)) k ||| (nI 1 <<< (nI k &&& 31)) := by
          rw [B_set_snoc, if_pos (by simp [c])]
        obtain ⟨h1, a1, a2, a3⟩ := mo_tell_s (nI (F k)) R (by omega)
        obtain ⟨h', x1, x2⟩ := ih (k + 1) m h1 (by omega) (by omega) (by rw [ec]; exact a2) (Fr.trans a3)
        refine ⟨h', ?_, x2⟩
        show (if g 51 6 ≤ nI k then _ else _) = _
        rw [Fr 51 6 rfl, e6, if_neg (nI_ge (by omega) (by omega)), po_71 (by omega), B_ift, nI_clamp (by omega), Fr 71 k rfl, e k (by omega), if_neg (fun w => by rw [bn_eq0 (hF k)] at w; exact c w)]
        dsimp only
        rw [B_ift, a1, B_bind]
        unfold mo_about_66
        rw [bc_1, nI_add, ← eb]
        exact x1
  have := H T 0 px_F h (by omega) (px_F_lt (by omega)) R (B_fr.refl _ _)
  rw [nI_0] at this
  exact this
theorem mo_ashore_23_s {a : V_T} (A : V_A ki a h) (ha : a.1 < 2 ^ 31) (R : B_rm h []) : ∃ h', mo_ashore_23 px_F 0 h = some (nI a.1, h') ∧ B_rm h' ((a.2.2.getD []).map nI) ∧ B_fr B_frm h h' := by
  obtain ⟨q44, q47, q71, q0, ql⟩ := A
  cases w : a.2.2 with
  | none =>
    have z := q0 w
    obtain ⟨n, hn⟩ := px_F_pos (n := 0) (px_F_lt (by omega))
    refine ⟨h, ?_, R, B_fr.refl _ _⟩
    rw [hn]
    show (if h 51 50 ≤ 0 then _ else _) = _
    have e : mo_ashore_54 h = some (nI a.1, h) := by
      unfold mo_ashore_54
      rw [q47]
    by_cases c : h 51 50 ≤ 0
    · rw [if_pos c, e]
    · rw [if_neg c, q47, if_pos (by rw [z]; decide), e]
  | some l =>
    obtain ⟨l0, l6, lt, l50, l72⟩ := ql l w
    have H : ∀ (j k m : Nat) (g : pH), k + j = l.length → j < m → B_fr B_frm h g → B_rm g ((l.take k).map nI) → ∃ h', mo_ashore_23 m (nI k) g = some (nI a.1, h') ∧ B_rm h' (l.map nI) ∧ B_fr B_frm h h' := by
      intro j
      induction j with
      | zero =>
        intro k m g hk hm F R
        obtain ⟨m, rfl⟩ : ∃ n', m = n' + 1 := ⟨m - 1, by omega⟩
        rw [List.take_of_length_le (by omega)] at R
        refine ⟨g, ?_, R, F⟩
        show (if g 51 50 ≤ nI k then _ else _) = _
        rw [F 51 50 rfl, l50, if_pos (nI_le (by omega) (by omega))]
        unfold mo_ashore_54
        rw [F 51 47 rfl, q47]
      | succ j ih =>
        intro k m g hk hm F R
        obtain ⟨m, rfl⟩ : ∃ n', m = n' + 1 := ⟨m - 1, by omega⟩
        obtain ⟨h1, a1, a2, a3⟩ := mo_tell_s (nI (l.getD k 0)) R (by rw [List.length_map, List.length_take]; omega)
        rw [← Z_map_snoc (by omega)] at a2
        obtain ⟨h', x1, x2⟩ := ih (k + 1) m h1 (by omega) (by omega) (F.trans a3) a2
        refine ⟨h', ?_, x2⟩
        show (if g 51 50 ≤ nI k then _ else _) = _
        rw [F 51 50 rfl, l50, if_neg (nI_ge (by omega) (by omega)), F 51 47 rfl, q47, if_neg (fun w => by rw [bn_le0 (by omega)] at w; omega), po_72 (by omega), B_ift, nI_clamp (by omega), F 72 k rfl, l72 k (by omega), a1, B_bind, bc_1, nI_add]
        exact x1
    have := H l.length 0 px_F h (by omega) (px_F_lt (by omega)) (B_fr.refl _ _) (by rw [List.take_zero]; exact R)
    rw [nI_0] at this
    exact this
/-- the class goes through the rows: how many, and the first -/
theorem wu_ashore_s (W : R_w P T K Y S) (hD : S_dist S Y f b ≤ 60) (hf : f < 2 + K) (hb : b < 2) (C : C_h h P T K Y S ev) (h6 : h 22 6 = ab) (h9 : h 22 9 = nI (S_dist S Y f b)) (h7 : h 22 7 = nI f) (h8 : h 22 8 = nI b) (kk : Wk h S T (S_dist S Y f b) ev ab (Z_lg S T ab) 3 [] 0) (R : B_rc h []) : ∃ h', wu_ashore_41 px_F (nI ki) 0 0 h = some (nI ((R_pl (Z_ok S T ab) 3 []).foldl (fun a r => V_sf (V_hit ev S Y K f b ki ab) (V_sd ev S Y f b ab) r a) (0, fun _ => 0, none)).1, h') ∧ B_rc h' ((((R_pl (Z_ok S T ab) 3 []).foldl (fun a r => V_sf (V_hit ev S Y K f b ki ab) (V_sd ev S Y f b ab) r a) (0, fun _ => 0, none)).2.2.getD []).map nI) ∧ ((R_pl (Z_ok S T ab) 3 []).foldl (fun a r => V_sf (V_hit ev S Y K f b ki ab) (V_sd ev S Y f b ab) r a) (0, fun _ => 0, none)).1 ≤ 1000000 ∧ V_ok T ((R_pl (Z_ok S T ab) 3 []).foldl (fun a r => V_sf (V_hit ev S Y K f b ki ab) (V_sd ev S Y f b ab) r a) (0, fun _ => 0, none)) ∧ B_fr E_vx h h' := by
  obtain ⟨h', y1, ⟨k', hk', q1, q2, q3⟩, y3⟩ := wk_all (α := V_T) (fun n a k h => wu_ashore_41 n (nI ki) (nI a.1) (nI k) h) (fun n a k h2 => px_bind (wu_endsOn (nI ki) h2) fun z3 h4 => if z3 = 0 then wu_ashore_86 (wu_ashore_41 n) (nI ki) (nI a.1) (nI k) h4 else if nI a.1 = 0 then px_bind (wk_tellRow h4) fun _ h6 => wu_ashore_83 (wu_ashore_41 n) (nI ki) (nI a.1) (nI k) h6 else wu_ashore_83 (wu_ashore_41 n) (nI ki) (nI a.1) (nI k) h4) (fun a h => wu_ashore_92 (nI a.1) h) (fun k a h => a.1 ≤ k ∧ V_ok T a ∧ B_rc h ((a.2.2.getD []).map nI)) (V_sf (V_hit ev S Y K f b ki ab) (V_sd ev S Y f b ab)) W hD (fun n a k h hk => by
    have ek : px_k 1000000 = nI 1000000 := px_k_eq _
    show (if px_k 1000000 ≤ nI k then _ else _) = _
    rw [ek, if_neg (nI_ge (by omega) (by omega)), bc_1]) (fun k a h h' q F => ⟨q.1, q.2.1, by
    obtain ⟨-, -, r1, r2⟩ := q
    exact ⟨by rw [F 45 1 rfl]; exact r1, fun k hk => by rw [F 46 k rfl]; exact r2 k hk⟩⟩) (fun n a k h r hk hv hl hne nd C h6 h9 h7 h8 q => by
    obtain ⟨q1, q2, q3⟩ := q
    have ee := wu_endsOn_s (ki := ki) W hD hf hb C h9 h7 h8 nd hv hne
    cases hh : V_hit ev S Y K f b ki ab r with
    | false =>
      have e : V_sf (V_hit ev S Y K f b ki ab) (V_sd ev S Y f b ab) r a = a := by
        unfold V_sf
        rw [hh, if_neg (by decide)]
      rw [e]
      refine ⟨h, ?_, ⟨by omega, q2, q3⟩, B_fr.refl _ _⟩
      rw [ee, hh, B_bind, if_pos (show B_01 false = 0 from rfl)]
      unfold wu_ashore_86
      rw [bc_1, nI_add]
    | true =>
      obtain ⟨hw, s, hs, -, hsd⟩ := V_hit_said W hv hh
      have e : V_sf (V_hit ev S Y K f b ki ab) (V_sd ev S Y f b ab) r a = (a.1 + 1, V_F a.2.1 (V_sd ev S Y f b ab r), some (a.2.2.getD r)) := if_pos hh
      have ok2 := V_ok_sf (hit := V_hit ev S Y K f b ki ab) (sd := V_sd ev S Y f b ab) (r := r) q2 hv.1 (fun _ => by rw [hsd]; exact hs)
      rw [e] at ok2 ⊢
      rw [ee, hh, B_bind, if_neg (show ¬ B_01 true = 0 by decide)]
      have e83 : ∀ g, wu_ashore_83 (wu_ashore_41 n) (nI ki) (nI a.1) (nI k) g = wu_ashore_41 n (nI ki) (nI (a.1 + 1)) (nI (k + 1)) g := fun g => by
        unfold wu_ashore_83 wu_ashore_86
        rw [bc_1, nI_add, nI_add]
      by_cases z : a.1 = 0
      · have en : a.2.2 = none := by
          cases w : a.2.2 with
          | none => rfl
          | some l => have := (q2.2.2.2 l w).1; omega
        have kf := nd.k2 (Z_rc_of hw)
        rw [en] at q3
        obtain ⟨h3, t1, t2, t3⟩ := wk_tellRow_s hv.1 kf.1 (fun j hj => (kf.2.2.2.2.2.1 j hj).1) q3 (by have := hv.1; show 0 + _ ≤ 10; omega)
        refine ⟨h3, ?_, ⟨by show a.1 + 1 ≤ k + 1; omega, ok2, ?_⟩, t3.mono B_frw_x⟩
        · rw [if_pos (by rw [z]; exact nI_0), t1, B_bind, e83]
        · rw [en]
          exact t2
      · refine ⟨h, ?_, ⟨by show a.1 + 1 ≤ k + 1; omega, ok2, ?_⟩, B_fr.refl _ _⟩
        · rw [if_neg (fun w => by rw [bn_eq0 (by omega)] at w; exact z w), e83]
        · cases w : a.2.2 with
          | none => exact absurd (q2.2.2.1 w) z
          | some l =>
            rw [w] at q3
            exact q3) (fun r a hw => by
    unfold V_sf V_hit Z_bu
    rw [decide_eq_false hw]
    rfl) (0, fun _ => 0, none) C h6 h9 h7 h8 kk ⟨Nat.le_refl _, V_ok_0 T, R⟩
  refine ⟨h', ?_, q3, by omega, q2, y3⟩
  rw [← nI_0]
  exact y1
/-- the class goes through the rows: how many a thing -/
theorem wu_about_s (W : R_w P T K Y S) (hD : S_dist S Y f b ≤ 60) (hf : f < 2 + K) (hb : b < 2) (C : C_h h P T K Y S ev) (h6 : h 22 6 = ab) (h9 : h 22 9 = nI (S_dist S Y f b)) (h7 : h 22 7 = nI f) (h8 : h 22 8 = nI b) (kk : Wk h S T (S_dist S Y f b) ev ab (Z_lg S T ab) 3 [] 0) (R : ∀ t, t < 10 → h 32 t = 0) : ∃ h', wu_about_38 px_F (nI ki) 0 h = wu_about_77 h' ∧ (∀ t, t < 10 → h' 32 t = nI (((R_pl (Z_ok S T ab) 3 []).foldl (fun a r => V_sf (V_hit ev S Y K f b ki ab) (V_sd ev S Y f b ab) r a) (0, fun _ => 0, none)).2.1 t)) ∧ ((R_pl (Z_ok S T ab) 3 []).foldl (fun a r => V_sf (V_hit ev S Y K f b ki ab) (V_sd ev S Y f b ab) r a) (0, fun _ => 0, none)).1 ≤ 1000000 ∧ V_ok T ((R_pl (Z_ok S T ab) 3 []).foldl (fun a r => V_sf (V_hit ev S Y K f b ki ab) (V_sd ev S Y f b ab) r a) (0, fun _ => 0, none)) ∧ B_fr E_vx h h' := by
  have h10 := W.2.1
  obtain ⟨h', y1, ⟨k', hk', q1, q2, q3⟩, y3⟩ := wk_all (α := V_T) (fun n a k h => wu_about_38 n (nI ki) (nI k) h) (fun n a k h2 => px_bind (wu_endsOn (nI ki) h2) fun z3 h4 => if z3 = 0 then wu_about_71 (wu_about_38 n) (nI ki) (nI k) h4 else px_bind (wk_countSaid h4) fun _ h6 => wu_about_71 (wu_about_38 n) (nI ki) (nI k) h6) (fun a h => wu_about_77 h) (fun k a h => a.1 ≤ k ∧ V_ok T a ∧ ∀ t, t < 10 → h 32 t = nI (a.2.1 t)) (V_sf (V_hit ev S Y K f b ki ab) (V_sd ev S Y f b ab)) W hD (fun n a k h hk => by
    have ek : px_k 1000000 = nI 1000000 := px_k_eq _
    show (if px_k 1000000 ≤ nI k then _ else _) = _
    rw [ek, if_neg (nI_ge (by omega) (by omega)), bc_1]) (fun k a h h' q F => ⟨q.1, q.2.1, fun t ht => by rw [F 32 t rfl]; exact q.2.2 t ht⟩) (fun n a k h r hk hv hl hne nd C h6 h9 h7 h8 q => by
    obtain ⟨q1, q2, q3⟩ := q
    have ee := wu_endsOn_s (ki := ki) W hD hf hb C h9 h7 h8 nd hv hne
    have e71 : ∀ g, wu_about_71 (wu_about_38 n) (nI ki) (nI k) g = wu_about_38 n (nI ki) (nI (k + 1)) g := fun g => by
      unfold wu_about_71
      rw [bc_1, nI_add]
    cases hh : V_hit ev S Y K f b ki ab r with
    | false =>
      have e : V_sf (V_hit ev S Y K f b ki ab) (V_sd ev S Y f b ab) r a = a := by
        unfold V_sf
        rw [hh, if_neg (by decide)]
      rw [e]
      refine ⟨h, ?_, ⟨by omega, q2, q3⟩, B_fr.refl _ _⟩
      rw [ee, hh, B_bind, if_pos (show B_01 false = 0 from rfl), e71]
    | true =>
      obtain ⟨hw, s, hs, hse, hsd⟩ := V_hit_said W hv hh
      have e : V_sf (V_hit ev S Y K f b ki ab) (V_sd ev S Y f b ab) r a = (a.1 + 1, V_F a.2.1 (V_sd ev S Y f b ab r), some (a.2.2.getD r)) := if_pos hh
      have ok2 := V_ok_sf (hit := V_hit ev S Y K f b ki ab) (sd := V_sd ev S Y f b ab) (r := r) q2 hv.1 (fun _ => by rw [hsd]; exact hs)
      rw [e] at ok2 ⊢
      have kf := nd.k2 (Z_rc_of hw)
      obtain ⟨s1, -, -, -⟩ := wk_said nd.k1 hv.1 hne
      have et := (kf.top hne).2
      rw [hse] at et
      rw [et] at s1
      have ec : wk_countSaid h = some (0, px_w h 32 s (h 32 s + nI 1)) := by
        unfold wk_countSaid
        rw [s1, B_bind, s1, B_bind]
        show px_bind (wu_at 32 (nI s) h) _ = _
        rw [wa_32 (by omega), B_bind]
        show px_bind (wu_put 32 (nI s) _ h) _ = _
        rw [wp_32 (by omega), B_bind, bc_1]
      refine ⟨px_w h 32 s (h 32 s + nI 1), ?_, ⟨by show a.1 + 1 ≤ k + 1; omega, ok2, fun t ht => ?_⟩, (B_fr.refl _ _).w rfl⟩
      · rw [ee, hh, B_bind, if_neg (show ¬ B_01 true = 0 by decide), ec, B_bind, e71]
      · rw [hsd, B_w_at]
        show _ = nI (V_F a.2.1 s t)
        unfold V_F
        by_cases q : t = s
        · rw [if_pos q, if_pos q, q, q3 s (by omega), nI_add]
        · rw [if_neg q, if_neg q, q3 t ht]) (fun r a hw => by
    unfold V_sf V_hit Z_bu
    rw [decide_eq_false hw]
    rfl) (0, fun _ => 0, none) C h6 h9 h7 h8 kk ⟨Nat.le_refl _, V_ok_0 T, fun t ht => by rw [R t ht]; exact nI_0.symm⟩
  refine ⟨h', ?_, q3, by omega, q2, y3⟩
  rw [← nI_0]
  exact y1
/-! where it is asked of nobody, or of no islet -/
theorem mo_findShore_no {hh : pH} (M : R_m hh P T K Y S) (W : R_w P T K Y S) (v0 v1 : Int32) (hq : ¬ (B_is v1 K = true ∧ B_is v0 P = true ∧ B_is (S 1 (B_n v0)) 2 = true)) : mo_findShore v0 v1 hh = some (0, hh) := by
  have h6 := W.1
  have h5 := W.2.2.1
  obtain ⟨⟨mP, mT, mK, -⟩, A⟩ := M
  have e32 : mo_findShore_32 hh = some (0, hh) := by
    unfold mo_findShore_32
    rw [bc_0, B_bz0]
  unfold mo_findShore
  rw [mo_isPerson_eq v0 mP h6, B_bind]
  cases hp : B_is v0 P with
  | false => rw [if_pos (show B_01 false = 0 from rfl), e32]
  | true =>
    obtain ⟨p, hpP, rfl⟩ := B_is_ex hp (by omega)
    obtain ⟨f, hf, ef⟩ := W.2.2.2.2.2.2.1 p hpP
    rw [B_n_nI (by omega), ef] at hq
    rw [if_neg (show ¬ B_01 true = 0 by decide), po_52 (by omega), B_ift, nI_clamp (by omega), A.1 p hpP, ef, bc_1]
    by_cases c : f < 2
    · rw [if_neg (fun w => by rw [bn_lt (by omega) (by omega)] at w; omega), mK, ← bc_1, mo_in0_eq v1 rfl (by omega), B_bind]
      cases hk : B_is v1 K with
      | false => rw [if_pos (show B_01 false = 0 from rfl), e32]
      | true => exact absurd ⟨hk, hp, B_is_t c (by omega)⟩ hq
    · rw [if_pos (by rw [bn_lt (by omega) (by omega)]; omega), e32]
theorem wu_leavesBank_no (R : R_c h P T K Y S) (W : R_w P T K Y S) (v0 : Int32) (hq : ¬ (B_is v0 P = true ∧ B_is (S 1 (B_n v0)) 2 = true)) : wu_leavesBank v0 h = some (0, h) := by
  have h6 := W.1
  have h5 := W.2.2.1
  have R' := R
  obtain ⟨hP, -⟩ := R
  unfold wu_leavesBank
  rw [hs_hasPerson_eq v0 hP h6, B_bind]
  cases hp : B_is v0 P with
  | false => rw [if_pos (show B_01 false = 0 from rfl), bc_0, B_bz0]
  | true =>
    obtain ⟨p, hpP, rfl⟩ := B_is_ex hp (by omega)
    obtain ⟨f, hf, ef⟩ := W.2.2.2.2.2.2.1 p hpP
    rw [B_n_nI (by omega), ef] at hq
    have hf2 : ¬ f < 2 := fun w => hq ⟨hp, B_is_t w (by omega)⟩
    rw [if_neg (show ¬ B_01 true = 0 by decide), wa_5 (by omega), B_bind, R'.2.2.2.2.2.1 p hpP, ef, bc_1, if_neg (fun w => by rw [bn_eq0 (by omega)] at w; omega), if_neg (fun w => by rw [bn_eq (by omega) (by omega)] at w; omega)]
    unfold wu_leavesBank_53 wu_leavesBank_54
    rw [bc_0, B_bz0]
theorem wu_leavesBank_go (I : I_h h P T K Y i n S ev) (hp : p < P) (ef : S 1 p = nI f) (hf : f < 2) : S_dist S Y f (1 - f) ≤ 60 ∧ wu_leavesBank (nI p) h = some (nI 1, B_ld h (nI 1 <<< (nI p &&& 31)) (nI f) (nI (1 - f)) (nI (S_dist S Y f (1 - f)))) ∧ C_h (B_ld h (nI 1 <<< (nI p &&& 31)) (nI f) (nI (1 - f)) (nI (S_dist S Y f (1 - f)))) P T K Y S ev := by
  obtain ⟨R, M, W, X, V, E, L⟩ := id I
  have h6 := W.1
  have R' := R
  obtain ⟨hP, -⟩ := R
  have q : S_beg S P (nI p) (-1) (nI (1 - f)) = true := by
    rw [S_beg_1, B_is_t hp (by omega), B_is_t (show 1 - f < 2 by omega) (by omega), B_n_nI (by omega), ef, decide_eq_false (fun w => by rw [bn_eq (by omega) (by omega)] at w; omega)]
    rfl
  obtain ⟨p', f', b', hp', hb', hf', hfb', e1, e2, e3, hD, ecr, C2⟩ := S_beg_go I q
  rw [bn_eq (by omega) (by omega)] at e1 e2
  subst e1
  subst e2
  rw [ef, bn_eq (by omega) (by have := W.2.2.1; omega)] at e3
  subst e3
  refine ⟨hD, ?_, C2⟩
  unfold wu_leavesBank
  rw [hs_hasPerson_eq (nI p) hP h6, B_bind, B_is_t hp (by omega), if_neg (show ¬ B_01 true = 0 by decide), wa_5 (by omega), B_bind, R'.2.2.2.2.2.1 p hp, ef]
  have e34 : wu_leavesBank_34 (nI p) (nI f) h = some (nI 1, B_ld h (nI 1 <<< (nI p &&& 31)) (nI f) (nI (1 - f)) (nI (S_dist S Y f (1 - f)))) := by
    unfold wu_leavesBank_34 wu_leavesBank_54
    rw [bc_1, bc_m1, pk_sub (by omega), ecr, B_bind, if_neg (by decide), B_bz1]
  rw [e34, bc_1]
  have : f = 0 ∨ f = 1 := by omega
  rcases this with rfl | rfl
  · rw [if_pos nI_0]
  · rw [if_neg (by decide), if_pos rfl]
def E_zs : Nat → Nat → Bool := fun a k => (Nat.beq a 51 && Nat.beq k 44) || E_z a k
theorem E_zs_sd : ∀ a k, E_zs a k = true → B_sd a k = true := fun a k e => by
  unfold E_zs at e
  rcases Bool.or_eq_true_iff.mp e with h | h
  · rw [Bool.and_eq_true] at h
    have h1 := Nat.eq_of_beq_eq_true h.1
    have h2 := Nat.eq_of_beq_eq_true h.2
    subst h1
    subst h2
    rfl
  · exact E_z_sd a k h
theorem E_z_zs : ∀ a k, E_z a k = true → E_zs a k = true := fun a k e => by
  unfold E_zs
  rw [e, Bool.or_true]
theorem mo_findShore_go {hh : pH} (hab : ab = nI 1 <<< (nI p &&& 31)) (hp : p < P) (ef : S 1 p = nI f) (hf : f < 2) (hk : ki < K) (W : R_w P T K Y S) (M2 : R_m hh P T K Y S) (MH : M_h hh P T K Y S ev) (A : R_a hh 52 P T S) : ∃ h', mo_findShore (nI p) (nI ki) hh = some (nI 1, h') ∧ V_A ki ((R_pl (Z_ok S T ab) 3 []).foldl (fun a r => V_st (V_hit ev S Y K f (1 - f) ki ab) (V_sd ev S Y f (1 - f) ab) r a) (0, fun _ => 0, none)) h' ∧ B_fr E_zs hh h' := by
  have h6 := W.1
  have h5 := W.2.2.1
  obtain ⟨⟨mP, mT, mK, -⟩, -⟩ := M2
  have F0 : B_fr E_zs hh (px_w hh 51 44 (nI ki)) := (B_fr.refl _ _).w rfl
  have MH0 : M_h (px_w hh 51 44 (nI ki)) P T K Y S ev := by
    obtain ⟨R, E⟩ := MH
    refine ⟨?_, ?_⟩
    · unfold R_k at *
      rw [F0 51 4 rfl, F0 51 6 rfl, F0 51 2 rfl, F0 51 1 rfl, F0.row 54 (fun _ => rfl), F0.row 55 (fun _ => rfl), F0.row 56 (fun _ => rfl), F0.row 57 (fun _ => rfl), F0.row 53 (fun _ => rfl)]
      exact R
    · rw [F0 51 26 rfl, F0.row 63 (fun _ => rfl)]
      exact E
  have A0 : R_a (px_w hh 51 44 (nI ki)) 52 P T S := A.cell (B_w_cell _ _ _ (by decide))
  obtain ⟨g1, a1, a2, a3, a4, a6, a7, a5⟩ := mo_beginRows_s (ab := ab) (p := f) (b := 1 - f) (Or.inl rfl : B_sl 52) (by decide) W MH0 A0
  have A1 : V_A ki (0, fun _ => 0, none) g1 := ⟨by rw [a5 51 44 rfl, B_w_same], by rw [a6]; exact nI_0.symm, fun t ht => by rw [a7 t ht]; exact nI_0.symm, fun _ => rfl, (fun l w => by cases w)⟩
  obtain ⟨g2, b1, b2, b3, b4⟩ := mo_shore_s (many := 1) (by omega) hp hab (show f < 2 + K by omega) (show 1 - f < 2 by omega) W a2 _ (by show 0 + 10 ^ 1 ≤ 20000; omega) A1
  obtain ⟨g3, c1, c2, c3, c4⟩ := mo_shore_s (many := 2) (by omega) hp hab (show f < 2 + K by omega) (show 1 - f < 2 by omega) W (a2.fr b4) _ (by change _ ≤ 0 + 10 ^ 1 at b3; omega) b2
  obtain ⟨g4, d1, d2, d3, d4⟩ := mo_shore_s (many := 3) (by omega) hp hab (show f < 2 + K by omega) (show 1 - f < 2 by omega) W ((a2.fr b4).fr c4) _ (by change _ ≤ 0 + 10 ^ 1 at b3; omega) c2
  have hfold := R_fold_3 (ok := Z_ok S T ab) (f := fun a r => V_st (V_hit ev S Y K f (1 - f) ki ab) (V_sd ev S Y f (1 - f) ab) r a) (fun x y z => V_st_cc x y z) (0, fun _ => 0, none)
  rw [← hfold] at d2
  refine ⟨g4, ?_, d2, F0.trans ((a5.mono (fun a k e => E_z_zs a k (E_b_z a k e))).trans (((b4.trans c4).trans d4).mono (fun a k e => E_z_zs a k (E_q_z a k e))))⟩
  unfold mo_findShore
  rw [mo_isPerson_eq (nI p) mP h6, B_bind, B_is_t hp (by omega), if_neg (show ¬ B_01 true = 0 by decide), po_52 (by omega), B_ift, nI_clamp (by omega), A.1 p hp, ef, bc_1, if_neg (fun w => by rw [bn_lt (by omega) (by omega)] at w; omega), mK, ← bc_1, mo_in0_eq (nI ki) rfl (by omega), bc_1, B_bind, B_is_t hk (by omega), if_neg (show ¬ B_01 true = 0 by decide)]
  dsimp only
  rw [B_ift, B_ift, B_w_cell _ _ _ (show (52 : Nat) ≠ 51 by decide), A.1 p hp, ef, pk_sub (by omega), ← hab, a1, B_bind]
  obtain ⟨nF, hF⟩ := px_F_pos (n := 9) (px_F_lt (by omega))
  have h9F : 9 < px_F := px_F_lt (by omega)
  obtain ⟨nG, rfl⟩ : ∃ n', nF = n' + 3 := ⟨nF - 3, by omega⟩
  rw [hF]
  show (if px_c 3 < nI 1 then _ else _) = _
  rw [bc_3, if_neg (fun w => by rw [bn_lt (by omega) (by omega)] at w; omega), bc_2, b1, B_bind, bc_1, nI_add]
  show (if px_c 3 < nI 2 then _ else _) = _
  rw [bc_3, if_neg (fun w => by rw [bn_lt (by omega) (by omega)] at w; omega), bc_2, c1, B_bind, bc_1, nI_add]
  show (if px_c 3 < nI 3 then _ else _) = _
  rw [bc_3, if_neg (fun w => by rw [bn_lt (by omega) (by omega)] at w; omega), bc_2, d1, B_bind, bc_1, nI_add]
  show (if px_c 3 < nI 4 then _ else _) = _
  rw [bc_3, if_pos (by rw [bn_lt (by omega) (by omega)]; omega), bc_1, B_bz1]
theorem B_ashore (hI : Inv i h) (v0 v1 : Int32) : ∃ r h1 h2, wu_ashore v0 v1 h = some (r, h1) ∧ mo_ashore v0 v1 h1 = some (r, h2) ∧ Inv (i + 5) h2 := by
  obtain ⟨P, T, K, Y, n, S, ev, I, r⟩ := hI
  obtain ⟨R, M, W, X, V, E, L⟩ := id I
  have h6 := W.1
  have h10 := W.2.1
  have h5 := W.2.2.1
  by_cases q : B_is v1 K = true ∧ B_is v0 P = true ∧ B_is (S 1 (B_n v0)) 2 = true
  · obtain ⟨q1, q2, q3⟩ := q
    obtain ⟨ki, hk, rfl⟩ := B_is_ex q1 (by omega)
    obtain ⟨p, hp, rfl⟩ := B_is_ex q2 (by omega)
    obtain ⟨f, hf0, ef⟩ := W.2.2.2.2.2.2.1 p hp
    rw [B_n_nI (by omega), ef, B_is_nI (by omega)] at q3
    have hf : f < 2 := of_decide_eq_true q3
    obtain ⟨hD, elb, C2⟩ := wu_leavesBank_go I hp ef hf
    have F2 : B_fr B_sc h (B_ld h (nI 1 <<< (nI p &&& 31)) (nI f) (nI (1 - f)) (nI (S_dist S Y f (1 - f)))) := B_ld_fr h _ _ _ _
    generalize hab : nI 1 <<< (nI p &&& 31) = ab at *
    generalize hh2 : B_ld h ab (nI f) (nI (1 - f)) (nI (S_dist S Y f (1 - f))) = h2 at *
    have e6 : h2 22 6 = ab := by rw [← hh2]; exact B_ld_6 _ _ _ _ _
    have e7 : h2 22 7 = nI f := by rw [← hh2]; exact B_ld_7 _ _ _ _ _
    have e8 : h2 22 8 = nI (1 - f) := by rw [← hh2]; exact B_ld_8 _ _ _ _ _
    have e9 : h2 22 9 = nI (S_dist S Y f (1 - f)) := by rw [← hh2]; exact B_ld_9 _ _ _ _ _
    have F3 : B_fr B_sc h2 (px_w h2 45 1 0) := (B_fr.refl _ _).w rfl
    obtain ⟨h4, s1, s2, s3⟩ := wk_start_s (ab := ab) (D := S_dist S Y f (1 - f)) (l := 3) (by omega) W (C2.fr F3) (by rw [B_w_cell _ _ _ (show (22 : Nat) ≠ 45 by decide)]; exact e6)
    have F4 : B_fr B_sc h2 h4 := F3.trans (s3.mono E_w_sc)
    have c22 : h4 22 = h2 22 ∨ True := Or.inr trivial
    have R4 : B_rc h4 [] := ⟨by rw [s3 45 1 rfl]; exact B_w_same _ _ _ _, fun k hk => by simp at hk⟩
    obtain ⟨h5', x1, x2, x3, x4, x5⟩ := wu_ashore_s (ab := ab) (ki := ki) W hD (show f < 2 + K by omega) (show 1 - f < 2 by omega) (C2.fr F4) (by rw [s3 22 6 rfl, B_w_cell _ _ _ (show (22 : Nat) ≠ 45 by decide)]; exact e6) (by rw [s3 22 9 rfl, B_w_cell _ _ _ (show (22 : Nat) ≠ 45 by decide)]; exact e9) (by rw [s3 22 7 rfl, B_w_cell _ _ _ (show (22 : Nat) ≠ 45 by decide)]; exact e7) (by rw [s3 22 8 rfl, B_w_cell _ _ _ (show (22 : Nat) ≠ 45 by decide)]; exact e8) s2 R4
    rw [← V_sf_st _ _ (R_pl_sorted 3 []) (fun m w => by cases w)] at x1 x2 x3 x4
    have F6 : B_fr B_sc h h5' := (F2.trans F4).trans (x5.mono E_vx_sc)
    obtain ⟨M2, MH, A⟩ := I.mo F6
    obtain ⟨g1, y1, y2, y3⟩ := mo_findShore_go (ki := ki) hab.symm hp ef hf hk W M2 MH A
    generalize (R_pl (Z_ok S T ab) 3 []).foldl (fun a r => V_st (V_hit ev S Y K f (1 - f) ki ab) (V_sd ev S Y f (1 - f) ab) r a) (0, fun _ => 0, none) = RR at *
    have F7 : B_fr B_frm g1 (px_w g1 51 13 0) := (B_fr.refl _ _).w rfl
    have y2' : V_A ki RR (px_w g1 51 13 0) := y2.same (by rw [B_w_at, if_neg (by decide)]) (by rw [B_w_at, if_neg (by decide)]) (by rw [B_w_at, if_neg (by decide)]) (B_w_cell _ _ _ (by decide)) (B_w_cell _ _ _ (by decide))
    obtain ⟨g2, z1, z2, z3⟩ := mo_ashore_23_s y2' (by omega) (B_rm_nil g1)
    have hlen : ((RR.2.2.getD []).map nI).length ≤ 10 := by
      rw [List.length_map]
      cases w : RR.2.2 with
      | none => show 0 ≤ 10; omega
      | some l => have := (x4.2.2.2 l w).2; show l.length ≤ 10; omega
    refine ⟨nI RR.1, h5', g2, ?_, ?_, B_q1 I F6 ((B_t0_fr _).trans ((y3.mono E_zs_sd).trans ((F7.trans z3).mono B_frm_sd))) x2 z2 hlen⟩
    · unfold wu_ashore
      rw [rv_hasIslet_s (nI ki) R W, B_bind, q1, if_neg (show ¬ B_01 true = 0 by decide), elb, B_bind, if_neg (by decide), tl_clear_s, B_bind, bc_3, s1, B_bind, bc_0, x1]
    · unfold mo_ashore
      rw [bc_0]
      show px_bind (mo_findShore (nI p) (nI ki) (B_t0 h5')) _ = _
      rw [y1, B_bind, if_neg (by decide)]
      unfold mo_ashore_21
      rw [bc_0, z1]
  · refine ⟨-1, h, B_t0 h, ?_, ?_, B_qr I r⟩
    · unfold wu_ashore wu_ashore_19
      rw [rv_hasIslet_s v1 R W, B_bind, bc_m1]
      cases hk : B_is v1 K with
      | false => rw [if_pos (show B_01 false = 0 from rfl)]
      | true => rw [if_neg (show ¬ B_01 true = 0 by decide), wu_leavesBank_no R W v0 (fun w => q ⟨hk, w⟩), B_bind, if_pos rfl]
    · have M2 : R_m (B_t0 h) P T K Y S := M.sm (B_t0_fr _).sm_d
      unfold mo_ashore
      rw [bc_0]
      show px_bind (mo_findShore v0 v1 (B_t0 h)) _ = _
      rw [mo_findShore_no M2 W v0 v1 q, B_bind, if_pos rfl, bc_m1]
theorem B_about (hI : Inv i h) (v0 v1 : Int32) : ∃ r h1 h2, wu_about v0 v1 h = some (r, h1) ∧ mo_about v0 v1 h1 = some (r, h2) ∧ Inv (i + 5) h2 := by
  obtain ⟨P, T, K, Y, n, S, ev, I, r⟩ := hI
  obtain ⟨R, M, W, X, V, E, L⟩ := id I
  have h6 := W.1
  have h10 := W.2.1
  have h5 := W.2.2.1
  by_cases q : B_is v1 K = true ∧ B_is v0 P = true ∧ B_is (S 1 (B_n v0)) 2 = true
  · obtain ⟨q1, q2, q3⟩ := q
    obtain ⟨ki, hk, rfl⟩ := B_is_ex q1 (by omega)
    obtain ⟨p, hp, rfl⟩ := B_is_ex q2 (by omega)
    obtain ⟨f, hf0, ef⟩ := W.2.2.2.2.2.2.1 p hp
    rw [B_n_nI (by omega), ef, B_is_nI (by omega)] at q3
    have hf : f < 2 := of_decide_eq_true q3
    obtain ⟨hD, elb, C2⟩ := wu_leavesBank_go I hp ef hf
    have F2 : B_fr B_sc h (B_ld h (nI 1 <<< (nI p &&& 31)) (nI f) (nI (1 - f)) (nI (S_dist S Y f (1 - f)))) := B_ld_fr h _ _ _ _
    generalize hab : nI 1 <<< (nI p &&& 31) = ab at *
    generalize hh2 : B_ld h ab (nI f) (nI (1 - f)) (nI (S_dist S Y f (1 - f))) = h2 at *
    have e6 : h2 22 6 = ab := by rw [← hh2]; exact B_ld_6 _ _ _ _ _
    have e7 : h2 22 7 = nI f := by rw [← hh2]; exact B_ld_7 _ _ _ _ _
    have e8 : h2 22 8 = nI (1 - f) := by rw [← hh2]; exact B_ld_8 _ _ _ _ _
    have e9 : h2 22 9 = nI (S_dist S Y f (1 - f)) := by rw [← hh2]; exact B_ld_9 _ _ _ _ _
    obtain ⟨h3, k1, k2, k3⟩ := wk_clearCounts_s h2
    have F3 : B_fr B_sc h2 h3 := k3.mono (fun a k e => by
      have := Nat.eq_of_beq_eq_true e
      subst this
      rfl)
    obtain ⟨h4, s1, s2, s3⟩ := wk_start_s (ab := ab) (D := S_dist S Y f (1 - f)) (l := 3) (by omega) W (C2.fr F3) (by rw [k3 22 6 rfl]; exact e6)
    have F4 : B_fr B_sc h2 h4 := F3.trans (s3.mono E_w_sc)
    obtain ⟨h5', x1, x2, x3, x4, x5⟩ := wu_about_s (ab := ab) (ki := ki) W hD (show f < 2 + K by omega) (show 1 - f < 2 by omega) (C2.fr F4) (by rw [s3 22 6 rfl, k3 22 6 rfl]; exact e6) (by rw [s3 22 9 rfl, k3 22 9 rfl]; exact e9) (by rw [s3 22 7 rfl, k3 22 7 rfl]; exact e7) (by rw [s3 22 8 rfl, k3 22 8 rfl]; exact e8) s2 (fun t ht => by rw [s3 32 t rfl]; exact k2 t ht)
    rw [← V_sf_st _ _ (R_pl_sorted 3 []) (fun m w => by cases w)] at x2 x3 x4
    have hF : ∀ t, ((R_pl (Z_ok S T ab) 3 []).foldl (fun a r => V_st (V_hit ev S Y K f (1 - f) ki ab) (V_sd ev S Y f (1 - f) ab) r a) (0, fun _ => 0, none)).2.1 t < 2 ^ 31 := fun t => by
      have := x4.1 t
      omega
    obtain ⟨h6', t1, t2, t3⟩ := wk_tellCounts_s hF x2
    have F6 : B_fr B_sc h h6' := ((F2.trans F4).trans (x5.mono E_vx_sc)).trans (t3.mono B_frw_sc)
    obtain ⟨M2, MH, A⟩ := I.mo F6
    obtain ⟨g1, y1, y2, y3⟩ := mo_findShore_go (ki := ki) hab.symm hp ef hf hk W M2 MH A
    generalize (R_pl (Z_ok S T ab) 3 []).foldl (fun a r => V_st (V_hit ev S Y K f (1 - f) ki ab) (V_sd ev S Y f (1 - f) ab) r a) (0, fun _ => 0, none) = RR at *
    have F7 : B_fr B_frm g1 (px_w g1 51 13 0) := (B_fr.refl _ _).w rfl
    obtain ⟨g2, z1, z2, z3⟩ := mo_about_26_s (h := px_w g1 51 13 0) hF h10 x4.2.1 (by rw [B_w_at, if_neg (by decide), y3 51 6 rfl]; exact MH.1.2.1) (fun t ht => by rw [B_w_cell _ _ _ (show (71 : Nat) ≠ 51 by decide)]; exact y2.2.2.1 t ht) (B_rm_nil g1)
    refine ⟨B_set (fun t => decide (RR.2.1 t ≠ 0)) 10, h6', g2, ?_, ?_, B_q1 I F6 ((B_t0_fr _).trans ((y3.mono E_zs_sd).trans ((F7.trans z3).mono B_frm_sd))) t2 z2 (V_cl_len _ _)⟩
    · unfold wu_about
      rw [rv_hasIslet_s (nI ki) R W, B_bind, q1, if_neg (show ¬ B_01 true = 0 by decide), elb, B_bind, if_neg (by decide), k1, B_bind, bc_3, s1, B_bind, bc_0, x1]
      unfold wu_about_77
      rw [t1, B_bind]
    · unfold mo_about
      rw [bc_0]
      show px_bind (mo_findShore (nI p) (nI ki) (B_t0 h6')) _ = _
      rw [y1, B_bind, if_neg (by decide)]
      unfold mo_about_23
      rw [bc_0, z1]
  · refine ⟨-1, h, B_t0 h, ?_, ?_, B_qr I r⟩
    · unfold wu_about wu_about_19
      rw [rv_hasIslet_s v1 R W, B_bind, bc_m1]
      cases hk : B_is v1 K with
      | false => rw [if_pos (show B_01 false = 0 from rfl)]
      | true => rw [if_neg (show ¬ B_01 true = 0 by decide), wu_leavesBank_no R W v0 (fun w => q ⟨hk, w⟩), B_bind, if_pos rfl]
    · have M2 : R_m (B_t0 h) P T K Y S := M.sm (B_t0_fr _).sm_d
      unfold mo_about
      rw [bc_0]
      show px_bind (mo_findShore v0 v1 (B_t0 h)) _ = _
      rw [mo_findShore_no M2 W v0 v1 q, B_bind, if_pos rfl, bc_m1]
end SHOREC
