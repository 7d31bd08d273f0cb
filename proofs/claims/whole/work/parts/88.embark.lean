/-! Layer B: who and whereto, and the row that the text tells -/
section EMBARK
variable {i : Nat} {h : pH} {P T K Y n : Nat} {S : pH} {ab : Int32} {sg : Nat → Nat}
def S_rd (S : pH) (T : Nat) (ab : Int32) (sg : Nat → Nat) : Nat → Nat → List Nat → Int32 × List Nat
  | 0, k, r => (if k = 0 then -1 else 0, r)
  | m + 1, k, r => if (decide (r.length < 6) && S_can S T ab r (nI (sg k) - nI 113)) = true then S_rd S T ab sg m (k + 1) (r ++ [B_n (nI (sg k) - nI 113)]) else (-1 - nI k, r)
def r_ok (r : List Nat) (T : Nat) : Prop := r_in r T ∧ r.Nodup ∧ r.length ≤ 6
theorem r_ok_nil (T : Nat) : r_ok [] T := ⟨fun k hk => absurd hk (by simp), List.nodup_nil, by simp⟩
theorem S_can_ex {r : List Nat} {x : Int32} (W : R_w P T K Y S) (q : S_can S T ab r x = true) : ∃ t, t < T ∧ x = nI t ∧ t ∉ r ∧ ¬ S 4 t = 0 ∧ S_un S T ab x = true := by
  have h10 := W.2.1
  unfold S_can at q
  simp only [Bool.and_eq_true, Bool.not_eq_true', decide_eq_false_iff_not] at q
  have hx : B_is x T = true := by
    have := q.1.1
    unfold S_un at this
    rw [Bool.and_eq_true] at this
    exact this.1
  obtain ⟨t, ht, rfl⟩ := B_is_ex hx (by omega)
  rw [B_n_nI (by omega)] at q
  refine ⟨t, ht, rfl, fun hm => ?_, q.1.2, q.1.1⟩
  have := q.2
  rw [List.contains_iff_mem.mpr hm] at this
  cases this
theorem r_ok_app {r : List Nat} {t : Nat} (h : r_ok r T) (ht : t < T) (hn : t ∉ r) (h6 : r.length < 6) : r_ok (r ++ [t]) T := by
  refine ⟨r_in_app h.1 ht, ?_, by rw [List.length_append, List.length_singleton]; omega⟩
  rw [List.nodup_append]
  refine ⟨h.2.1, List.nodup_cons.mpr ⟨by simp, List.nodup_nil⟩, fun a ha b hb e => ?_⟩
  rw [List.mem_singleton] at hb
  subst hb
  subst e
  exact hn ha
theorem S_rd_ok (W : R_w P T K Y S) : ∀ (m k : Nat) (r : List Nat), r_ok r T → r.length = k → r_ok (S_rd S T ab sg m k r).2 T ∧ ((S_rd S T ab sg m k r).1 = 0 → (S_rd S T ab sg m k r).2.length = k + m ∧ 0 < k + m) := by
  intro m
  induction m with
  | zero =>
    intro k r hr hk
    refine ⟨hr, fun q => ?_⟩
    unfold S_rd at q ⊢
    by_cases hk0 : k = 0
    · rw [if_pos hk0] at q
      exact absurd q (show ¬ (-1 : Int32) = 0 by decide)
    · exact ⟨hk, by omega⟩
  | succ m ih =>
    intro k r hr hk
    unfold S_rd
    by_cases q : (decide (r.length < 6) && S_can S T ab r (nI (sg k) - nI 113)) = true
    · rw [if_pos q]
      rw [Bool.and_eq_true, decide_eq_true_eq] at q
      obtain ⟨t, ht, e, hn, -, -⟩ := S_can_ex W q.2
      have h10 := W.2.1
      rw [e, B_n_nI (by omega)]
      have := ih (k + 1) (r ++ [t]) (r_ok_app hr ht hn q.1) (by rw [List.length_append, List.length_singleton]; omega)
      rw [show k + (m + 1) = k + 1 + m by omega]
      exact this
    · rw [if_neg q]
      refine ⟨hr, fun q => ?_⟩
      have h6 := hr.2.2
      have : (-1 - nI k : Int32) = -1 - nI k := rfl
      have hk6 : k ≤ 6 := by omega
      have hd : ∀ k : Nat, k < 7 → ¬ (-1 - nI k : Int32) = 0 := by decide
      exact absurd q (hd k (by omega))
/-- what embarking writes -/
def E_emb : Nat → Nat → Bool := fun a _ => [1, 22, 23].contains a
def E_rd : Nat → Nat → Bool := fun a k => match a with
  | 1 => [2, 3, 4].contains k
  | 22 => Nat.beq k 5
  | 23 => true
  | _ => false
theorem E_rd_sc : ∀ a k, E_rd a k = true → B_sc a k = true := fun a k e => by
  unfold E_rd at e
  split at e
  · have : k = 2 ∨ k = 3 ∨ k = 4 := by simpa using e
    rcases this with rfl | rfl | rfl <;> rfl
  · have := Nat.eq_of_beq_eq_true e
    subst this
    rfl
  · rfl
  · cases e
theorem E_rd_emb : ∀ a k, E_rd a k = true → E_emb a k = true := fun a k e => by
  unfold E_rd at e
  split at e
  · rfl
  · rfl
  · rfl
  · cases e
theorem wu_readRow_loop (hn : n ≤ 80) (W : R_w P T K Y S) : ∀ (m k nn : Nat) (r : List Nat) (h : pH), k + m = n → m < nn → R_c h P T K Y S → r_ok r T → r.length = k → C_row h r → h 22 6 = ab → h 1 1 = nI n → h 1 2 = nI k → h 1 3 = nI n → (∀ j, j < n → h 2 j = nI (sg j)) → ∃ h', wu_readRow_11 nn (nI k) h = some ((S_rd S T ab sg m k r).1, h') ∧ C_row h' (S_rd S T ab sg m k r).2 ∧ B_fr E_rd h h' := by
  intro m
  induction m with
  | zero =>
    intro k nn r h hk hn2 R hr hrk C e6 e11 e12 e13 es
    obtain ⟨nn, rfl⟩ : ∃ n', nn = n' + 1 := ⟨nn - 1, by omega⟩
    refine ⟨h, ?_, C, B_fr.refl _ _⟩
    unfold S_rd
    have hkn : k = n := by omega
    subst hkn
    show (if h 1 1 ≤ nI k then (if h 1 1 = 0 then _ else _) else _) = _
    rw [e11, if_pos (nI_le (Nat.le_refl _) (by omega)), bc_m1, bc_0]
    unfold wu_readRow_74
    by_cases q : k = 0
    · rw [if_pos q, if_pos (by rw [q, nI_0])]
    · rw [if_neg q, if_neg (nI_ne0 (by omega) (by omega))]
  | succ m ih =>
    intro k nn r h hk hn2 R hr hrk C e6 e11 e12 e13 es
    obtain ⟨nn, rfl⟩ : ∃ n', nn = n' + 1 := ⟨nn - 1, by omega⟩
    have h10 := W.2.1
    have e80 : px_len 2 = 80 := rfl
    have enx : tx_next h = some (nI (sg k), h) := by
      unfold tx_next
      rw [e12, e13, e80, if_neg (nI_pos (by omega)), if_neg (nI_ge (by omega) (by omega)), if_neg (nI_ge (by omega) (by omega)), po_2 (by omega), B_ift, nI_clamp (by omega), es k (by omega)]
      rfl
    have hct := cr_take_s (nI (sg k) - nI 113) (r_in_small hr.1 h10) C e6 R W
    have hz : wu_readRow_11 (nn + 1) (nI k) h = px_bind (cr_take (nI (sg k) - nI 113) h) fun z3 h4 => if z3 = 0 then some (px_c (-1) - nI k, h4) else px_bind (tx_skip h4) fun _ h6 => wu_readRow_11 nn (nI k + px_c 1) h6 := by
      show (if h 1 1 ≤ nI k then _ else _) = _
      rw [e11, if_neg (nI_ge (by omega) (by omega)), enx, B_bind, bc_113]
    rw [hz, hct]
    unfold S_rd
    by_cases q : (decide (r.length < 6) && S_can S T ab r (nI (sg k) - nI 113)) = true
    · rw [if_pos q, if_pos q, B_bind, if_neg (by decide)]
      rw [Bool.and_eq_true, decide_eq_true_eq] at q
      obtain ⟨t, ht, e, hnr, -, -⟩ := S_can_ex W q.2
      rw [e, B_n_nI (by omega)]
      have F : B_fr E_rd h (px_w (px_w (px_w h 23 r.length (nI t)) 22 5 (nI (r.length + 1))) 1 2 (nI (k + 1))) := (((B_fr.refl _ h).w rfl).w rfl).w rfl
      obtain ⟨h', i1, i2, i3⟩ := ih (k + 1) nn (r ++ [t]) (px_w (px_w (px_w h 23 r.length (nI t)) 22 5 (nI (r.length + 1))) 1 2 (nI (k + 1))) (by omega) (by omega) (R.sm (F.mono E_rd_sc).sm_c) (r_ok_app hr ht hnr q.1) (by rw [List.length_append, List.length_singleton]; omega) ⟨by rw [B_w_cell _ _ _ (by decide), B_w_same, List.length_append, List.length_singleton], by rw [List.length_append, List.length_singleton]; omega, fun j hj => by
        rw [B_w_cell _ _ _ (by decide), B_w_cell _ _ _ (by decide), B_w_at, B_getD_app2 r t hj]
        split
        · rfl
        · rw [List.length_append, List.length_singleton] at hj
          exact C.2.2 j (by omega)⟩ (by rw [F 22 6 rfl, e6]) (by rw [F 1 1 rfl, e11]) (B_w_same _ _ _ _) (by rw [B_w_at, if_neg (by decide), B_w_cell _ _ _ (by decide), B_w_cell _ _ _ (by decide), e13]) (fun j hj => by rw [F 2 j rfl]; exact es j hj)
      refine ⟨h', ?_, i2, F.trans i3⟩
      rw [← i1]
      show wu_readRow_11 nn (nI k + px_c 1) (px_w (px_w (px_w h 23 r.length (nI t)) 22 5 (nI (r.length + 1))) 1 2 ((px_w (px_w h 23 r.length (nI t)) 22 5 (nI (r.length + 1))) 1 2 + px_c 1)) = _
      rw [bc_1, nI_add, B_w_cell _ _ _ (show (1 : Nat) ≠ 22 by decide), B_w_cell _ _ _ (show (1 : Nat) ≠ 23 by decide), e12, nI_add]
    · rw [if_neg q, if_neg q, B_bind, if_pos rfl, bc_m1]
      exact ⟨h, rfl, C, B_fr.refl _ _⟩
/-- what embarking answers: the row is good where it is 0 -/
def S_emb (S : pH) (P T Y n : Nat) (sg : Nat → Nat) (x1 x2 x3 : Int32) : Int32 := if S_beg S P x1 x2 x3 = true then (if (S_rd S T (S_abd x1 x2) sg n 0 []).1 = 0 then (if S_dist S Y (B_n (S 1 (B_n x1))) (B_n x3) ≤ S_wds S (S_rd S T (S_abd x1 x2) sg n 0 []).2 then 0 else -200) else (S_rd S T (S_abd x1 x2) sg n 0 []).1) else -100
theorem wu_embark_s (x1 x2 x3 : Int32) (hn : n ≤ 80) (e11 : h 1 1 = nI n) (es : ∀ j, j < n → h 2 j = nI (sg j)) (R : R_c h P T K Y S) (W : R_w P T K Y S) : ∃ h', wu_embark x1 x2 x3 h = some (S_emb S P T Y n sg x1 x2 x3, h') ∧ h' 1 1 = 0 ∧ B_fr E_emb h h' ∧ (S_emb S P T Y n sg x1 x2 x3 = 0 → C_row h' (S_rd S T (S_abd x1 x2) sg n 0 []).2 ∧ h' 22 6 = S_abd x1 x2 ∧ h' 22 7 = S 1 (B_n x1) ∧ h' 22 8 = x3 ∧ h' 22 9 = nI (S_dist S Y (B_n (S 1 (B_n x1))) (B_n x3))) := by
  have h5 := W.2.2.1
  unfold wu_embark
  rw [cr_begin_s _ _ _ R W]
  have ecut : ∀ hh : pH, ∀ z, z ≤ 80 → hh 1 1 = nI z → tx_cut (px_c 0) hh = some (nI 1, px_w hh 1 1 0) := fun hh z hz e => by
    unfold tx_cut
    rw [bc_0, if_neg (by decide), e, if_pos (nI_pos' (by omega)), bc_1, B_bz1]
  unfold S_emb
  cases q : S_beg S P x1 x2 x3 with
  | false =>
    rw [if_neg (by decide), if_neg (by decide), B_bind, if_pos rfl]
    refine ⟨px_w h 1 1 0, ?_, B_w_same _ _ _ _, (B_fr.refl _ h).w rfl, fun q => absurd q (by decide)⟩
    unfold wu_embark_22
    rw [ecut h n hn e11, B_bind, bc_m100, if_neg (by decide)]
    rfl
  | true =>
    obtain ⟨p, b, f, hp, hb, hf, rfl, rfl, ef, hfb, -⟩ := S_beg_ex W q
    rw [if_pos rfl, if_pos rfl, B_bind, if_neg (by decide)]
    have ep : B_n (nI p) = p := B_n_nI (by have := W.1; omega)
    have eb : B_n (nI b) = b := B_n_nI (by omega)
    rw [ep, eb, ef, B_n_nI (show f < 2 ^ 31 by omega)]
    have l1 := S_yd_le W hf
    have l2 := S_yd_le W (show b < 2 + K by omega)
    have hD : S_dist S Y f b ≤ 60 := by unfold S_dist; omega
    have F1 := B_ld_fr h (S_abd (nI p) x2) (nI f) (nI b) (nI (S_dist S Y f b))
    generalize hH1 : B_ld h (S_abd (nI p) x2) (nI f) (nI b) (nI (S_dist S Y f b)) = h1 at *
    have F1e : B_fr E_emb h h1 := by
      rw [← hH1]
      exact (((((B_fr.refl _ h).w rfl).w rfl).w rfl).w rfl).w rfl
    have F2 : B_fr E_rd h1 (px_w (px_w (px_w h1 1 2 0) 1 3 (nI n)) 1 4 (-1)) := (((B_fr.refl _ h1).w rfl).w rfl).w rfl
    have hop : tx_open (px_c 80) h1 = some (0, px_w (px_w (px_w h1 1 2 0) 1 3 (nI n)) 1 4 (-1)) := by
      unfold tx_open
      have e1 : (px_w h1 1 2 0) 1 1 = nI n := by rw [B_w_at, if_neg (by decide), F1 1 1 rfl, e11]
      rw [bc_0, bc_80, bc_m1]
      dsimp only
      rw [e1, px_min_nI (by omega) (by omega), Nat.min_eq_left hn]
    generalize hH2 : px_w (px_w (px_w h1 1 2 0) 1 3 (nI n)) 1 4 (-1) = h2 at *
    have hl := wu_readRow_loop (S := S) (sg := sg) (ab := S_abd (nI p) x2) (n := n) hn W n 0 px_F [] h2 (by omega) (px_F_lt (by omega)) ((R.sm F1.sm_c).sm (F2.mono E_rd_sc).sm_c) (r_ok_nil T) rfl ⟨by rw [← hH2, B_w_cell _ _ _ (by decide), B_w_cell _ _ _ (by decide), B_w_cell _ _ _ (by decide), ← hH1, B_ld_5]; rfl, by simp, fun k hk => absurd hk (by simp)⟩ (by rw [F2 22 6 rfl, ← hH1, B_ld_6]) (by rw [F2 1 1 rfl, F1 1 1 rfl, e11]) (by rw [← hH2, B_w_at, if_neg (by decide), B_w_at, if_neg (by decide), B_w_same, nI_0]) (by rw [← hH2, B_w_at, if_neg (by decide), B_w_same]) (fun j hj => by rw [F2 2 j rfl, F1 2 j rfl]; exact es j hj)
    obtain ⟨h3, i1, i2, i3⟩ := hl
    have hok := S_rd_ok (sg := sg) (ab := S_abd (nI p) x2) W n 0 [] (r_ok_nil T) rfl
    generalize hX : S_rd S T (S_abd (nI p) x2) sg n 0 [] = X at *
    have hrr : wu_readRow h1 = some (X.1, h3) := by
      unfold wu_readRow
      rw [hop, B_bind, bc_0, ← nI_0, i1]
    have F3e : B_fr E_emb h h3 := (F1e.trans (F2.mono E_rd_emb)).trans (i3.mono E_rd_emb)
    have e113 : h3 1 1 = nI n := by rw [i3 1 1 rfl, F2 1 1 rfl, F1 1 1 rfl, e11]
    rw [hrr, B_bind]
    unfold wu_embark_22
    rw [ecut h3 n hn e113, B_bind]
    have F4e : B_fr E_emb h (px_w h3 1 1 0) := F3e.w rfl
    have hC4 : C_row (px_w h3 1 1 0) X.2 := ⟨by rw [B_w_cell _ _ _ (by decide)]; exact i2.1, i2.2.1, fun k hk => by rw [B_w_cell _ _ _ (by decide)]; exact i2.2.2 k hk⟩
    have g6 : (px_w h3 1 1 0) 22 6 = S_abd (nI p) x2 := by rw [B_w_cell _ _ _ (by decide), i3 22 6 rfl, F2 22 6 rfl, ← hH1, B_ld_6]
    have g7 : (px_w h3 1 1 0) 22 7 = nI f := by rw [B_w_cell _ _ _ (by decide), i3 22 7 rfl, F2 22 7 rfl, ← hH1, B_ld_7]
    have g8 : (px_w h3 1 1 0) 22 8 = nI b := by rw [B_w_cell _ _ _ (by decide), i3 22 8 rfl, F2 22 8 rfl, ← hH1, B_ld_8]
    have g9 : (px_w h3 1 1 0) 22 9 = nI (S_dist S Y f b) := by rw [B_w_cell _ _ _ (by decide), i3 22 9 rfl, F2 22 9 rfl, ← hH1, B_ld_9]
    have R4 : R_c (px_w h3 1 1 0) P T K Y S := R.cs (fun a h1 h2 => F4e.row a (fun k => by
      unfold E_emb
      have h1' : a ≠ 1 := by omega
      have h2' : a ≠ 22 := by omega
      have h3' : a ≠ 23 := by omega
      simp [h1', h2', h3']))
    by_cases q0 : X.1 = 0
    · rw [if_pos q0, if_pos q0, cr_hasWords_s hD g9 hok.1.1 hC4 R4 W, B_bind]
      by_cases qw : S_dist S Y f b ≤ S_wds S X.2
      · rw [if_pos qw, decide_eq_true qw, if_neg (by decide)]
        exact ⟨_, by rw [q0]; rfl, B_w_same _ _ _ _, F4e, fun _ => ⟨hC4, g6, g7, g8, g9⟩⟩
      · rw [if_neg qw, decide_eq_false qw, if_pos (show B_01 false = 0 from rfl), bc_m200]
        exact ⟨_, rfl, B_w_same _ _ _ _, F4e, fun q => absurd q (by decide)⟩
    · rw [if_neg q0, if_neg q0]
      exact ⟨_, rfl, B_w_same _ _ _ _, F4e, fun q => absurd q q0⟩
end EMBARK
