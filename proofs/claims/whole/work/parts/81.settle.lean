/-! Layer B: a crossing settled -/
section SETTLE
variable {h : pH} {P T K Y D p b : Nat} {S : pH} {ev : pE} {ab : Int32} {r : List Nat}
theorem cr_go_s (hD : D ≤ 60) (hp : p < 2 + K) (hb : b < 2) (hr : r_in r T) (hnd : r.Nodup) (W : R_w P T K Y S) (C : C_h h P T K Y S ev) (Cr : C_row h r) (e6 : h 22 6 = ab) (e7 : h 22 7 = nI p) (e8 : h 22 8 = nI b) (e9 : h 22 9 = nI D) : ∃ h', cr_go h = some (0, h') ∧ B_fr E_go h h' ∧ h' 22 10 = nI (S_go ev S D ab r).1 ∧ h' 22 11 = S_enc (S_go ev S D ab r).2.1 ∧ h' 22 12 = S_pl S Y K p b (S_go ev S D ab r) ∧ (∀ j, j < r.length → h' 24 j = nI (B_n (h' 24 j)) ∧ B_n (h' 24 j) ≤ B_n (S 4 (r.getD j 0))) ∧ B_dec S r (fun j => B_n (h' 24 j)) r.length = (S_go ev S D ab r).2.2 := by
  have F0 : B_fr E_go h (px_w (px_w h 22 10 0) 22 11 (-1)) := ((B_fr.refl _ _).w rfl).w rfl
  obtain ⟨h', i1, i2, i3⟩ := cr_go_loop (p := p) (b := b) (ev := ev) (ab := ab) hD hp hb hr hnd W r.length 0 px_F (px_w (px_w h 22 10 0) 22 11 (-1)) (by omega) (px_F_lt (by have := Cr.2.1; omega)) (C.fr (F0.mono E_go_sc)) (Cr.fr F0) (by rw [F0 22 6 rfl, e6]) (by rw [F0 22 7 rfl, e7]) (by rw [F0 22 8 rfl, e8]) (by rw [F0 22 9 rfl, e9]) (by rw [B_w_at, if_neg (by decide), B_w_same]; rfl) (by rw [B_w_same]; rfl) (fun j hj => absurd hj (by omega)) rfl
  refine ⟨h', ?_, F0.trans i2, i3⟩
  unfold cr_go
  rw [bc_0, bc_m1, ← nI_0, nI_0] at *
  exact i1
/-- what settle() writes -/
def E_set : Nat → Nat → Bool := fun a _ => [5, 8, 12, 13].contains a
theorem B_dec_W (W : R_w P T K Y S) (hr : r_in r T) (us : Nat → Nat) : ∀ k, k ≤ r.length → R_w P T K Y (B_dec S r us k) := by
  intro k
  induction k with
  | zero => intro _; exact W
  | succ k ih =>
    intro hk
    have W' := ih (by omega)
    have := B_lt_n (by omega) (W'.2.2.2.2.2.2.2.2.1 _ (hr k (by omega)))
    exact W'.w4 _ (by omega)
theorem cr_settle_loop (hr : r_in r T) (W : R_w P T K Y S) {us : Nat → Nat} (hus : ∀ j, j < r.length → us j ≤ B_n (B_dec S r us j 4 (r.getD j 0))) : ∀ (m k n : Nat) (h : pH), k + m = r.length → m < n → R_c h P T K Y (B_dec S r us k) → C_row h r → (∀ j, j < r.length → h 24 j = nI (us j)) → ∃ h3, cr_settle_2 n (nI k) h = (if h3 22 11 = -1 then cr_settle_79 h3 else px_bind (hs_tellTo (h3 22 11) (h3 22 6) h3) fun _ h2 => cr_settle_79 h2) ∧ R_c h3 P T K Y (B_dec S r us r.length) ∧ (∀ a, a ≠ 8 → h3 a = h a) := by
  intro m
  induction m with
  | zero =>
    intro k n h hk hn R Cr eu
    obtain ⟨n, rfl⟩ : ∃ n', n = n' + 1 := ⟨n - 1, by omega⟩
    have hkr : k = r.length := by omega
    subst hkr
    refine ⟨h, ?_, R, fun _ _ => rfl⟩
    show (if h 22 5 ≤ nI r.length then _ else _) = _
    have := Cr.2.1
    rw [Cr.1, if_pos (nI_le (Nat.le_refl _) (by omega)), bc_m1]
  | succ m ih =>
    intro k n h hk hn R Cr eu
    obtain ⟨n, rfl⟩ : ∃ n', n = n' + 1 := ⟨n - 1, by omega⟩
    have hkl : k < r.length := by omega
    have hrl := Cr.2.1
    have h10 := W.2.1
    have et := Cr.2.2 k hkl
    have htT := hr k hkl
    have W' := B_dec_W W hr us k (by omega)
    have hw := B_lt_n (by omega) (W'.2.2.2.2.2.2.2.2.1 _ htT)
    have c4 : h 8 (r.getD k 0) = nI (B_n (B_dec S r us k 4 (r.getD k 0))) := by rw [← hw.2]; exact R.2.2.2.2.2.2.2.2.1 _ htT
    have hu := hus k hkl
    have hz : cr_settle_2 (n + 1) (nI k) h = cr_settle_2 n (nI (k + 1)) (px_w h 8 (r.getD k 0) (nI (B_n (B_dec S r us k 4 (r.getD k 0)) - us k))) := by
      show (if h 22 5 ≤ nI k then _ else _) = _
      rw [Cr.1, if_neg (nI_ge (by omega) (by omega)), wa_23 (by omega), B_bind, et, wa_8 (by omega), B_bind, wa_24 (by omega), B_bind, c4, eu k hkl, pk_sub hu, wp_8 (by omega), B_bind, bc_1, nI_add]
    rw [hz]
    obtain ⟨h3, i1, i2, i3⟩ := ih (k + 1) n _ (by omega) (by omega) (R.w8 (r.getD k 0) (nI (B_n (B_dec S r us k 4 (r.getD k 0)) - us k))) ⟨by rw [B_w_cell _ _ _ (by decide)]; exact Cr.1, Cr.2.1, fun j hj => by rw [B_w_cell _ _ _ (by decide)]; exact Cr.2.2 j hj⟩ (fun j hj => by rw [B_w_cell _ _ _ (by decide)]; exact eu j hj)
    exact ⟨h3, i1, i2, fun a ha => by rw [i3 a ha, B_w_cell _ _ _ ha]⟩
theorem R_w.tl (W : R_w P T K Y S) {t : Nat} (ab : Int32) : R_w P T K Y (S_tl S t ab) := by
  obtain ⟨h6, h10, h5, hY2, hY60, w0, w1, w2, w4, w6, w7, w8, w9, w10, w11⟩ := W
  refine ⟨h6, h10, h5, hY2, hY60, w0, w1, w2, w4, w6, w7, fun k hk => ?_, fun k hk => ?_, w10, w11⟩
  · show px_w (px_w S 8 t (nI 1)) 9 t (S 9 t ||| ab) 8 k = 0 ∨ px_w (px_w S 8 t (nI 1)) 9 t (S 9 t ||| ab) 8 k = nI 1
    rw [B_w_cell _ _ _ (by decide), B_w_at]
    split
    · exact Or.inr rfl
    · exact w8 k hk
  · show B_bit (px_w (px_w S 8 t (nI 1)) 9 t (S 9 t ||| ab) 9 k) (B_n (px_w (px_w S 8 t (nI 1)) 9 t (S 9 t ||| ab) 6 k)) = true
    rw [B_w_cell _ _ _ (show (6 : Nat) ≠ 9 by decide), B_w_cell _ _ _ (show (6 : Nat) ≠ 8 by decide), B_w_at]
    split
    · rename_i q
      subst q
      rw [B_bit_or, w9 k hk]
      rfl
    · rw [B_w_cell _ _ _ (show (9 : Nat) ≠ 8 by decide)]
      exact w9 k hk
theorem R_w.mv (W : R_w P T K Y S) {x : Int32} (ab : Int32) (hx : B_lt x (2 + K)) : R_w P T K Y (S_mv S ab x) := by
  obtain ⟨h6, h10, h5, hY2, hY60, w0, w1, w2, w4, w6, w7, w8, w9, w10, w11⟩ := W
  refine ⟨h6, h10, h5, hY2, hY60, w0, fun k hk => ?_, w2, w4, w6, w7, w8, w9, w10, w11⟩
  unfold S_mv
  by_cases q : B_bit ab k = true
  · rw [if_pos ⟨rfl, q⟩]
    exact hx
  · rw [if_neg (fun w => q w.2)]
    exact w1 k hk
theorem S_pl_lt {x : Nat × Option Nat × pH} (hp : p < 2 + K) (hb : b < 2) : B_lt (S_pl S Y K p b x) (2 + K) := by
  unfold S_pl
  split
  · exact ⟨b, by omega, rfl⟩
  · exact S_land_lt (P := 0) (T := 0) hp b x.1
theorem S_fin_W {x : Nat × Option Nat × pH} (hp : p < 2 + K) (hb : b < 2) (W : R_w P T K Y x.2.2) : R_w P T K Y (S_fin S Y K ab p b x) := by
  unfold S_fin
  refine R_w.mv ?_ ab (S_pl_lt hp hb)
  split
  · exact W
  · exact W.tl ab
theorem hs_tellTo_s {t : Nat} (ht : t < T) (x : Int32) (R : R_c h P T K Y S) (W : R_w P T K Y S) : hs_tellTo (nI t) x h = some (0, px_w (px_w h 12 t (nI 1)) 13 t (S 9 t ||| x)) := by
  have h10 := W.2.1
  have c9 := R.2.2.2.2.2.2.2.2.2.2.2.2.2.1 t ht
  unfold hs_tellTo
  rw [wp_12 (by omega), B_bind, wa_13 (by omega), B_bind, B_w_cell _ _ _ (by decide), c9, wp_13 (by omega), B_bind, bc_1]
theorem R_c.tl (R : R_c h P T K Y S) (t : Nat) (x : Int32) : R_c (px_w (px_w h 12 t (nI 1)) 13 t (S 9 t ||| x)) P T K Y (S_tl S t x) := (R.w12 t (nI 1)).w13 t (S 9 t ||| x)
theorem cr_settle_s (hp : p < 2 + K) (hb : b < 2) (hr : r_in r T) (W : R_w P T K Y S) (R : R_c h P T K Y S) (Cr : C_row h r) {x : Nat × Option Nat × pH} (e6 : h 22 6 = ab) (e11 : h 22 11 = S_enc x.2.1) (ex : ∀ t, x.2.1 = some t → t < T) (e12 : h 22 12 = S_pl S Y K p b x) (hnd : r.Nodup) (eu : ∀ j, j < r.length → h 24 j = nI (B_n (h 24 j)) ∧ B_n (h 24 j) ≤ B_n (S 4 (r.getD j 0))) (ed : B_dec S r (fun j => B_n (h 24 j)) r.length = x.2.2) : ∃ h', cr_settle h = some (0, h') ∧ R_c h' P T K Y (S_fin S Y K ab p b x) ∧ B_fr E_set h h' := by
  obtain ⟨h3, i1, i2, i3⟩ := cr_settle_loop (us := fun j => B_n (h 24 j)) hr W (fun j hj => by
    rw [B_dec_notin j (by omega) (take_notin hnd hj)]
    exact (eu j hj).2) r.length 0 px_F h (by omega) (px_F_lt (by have := Cr.2.1; omega)) R Cr (fun j hj => (eu j hj).1)
  rw [ed] at i2
  have W3 : R_w P T K Y x.2.2 := by
    rw [← ed]
    exact B_dec_W W hr _ _ (Nat.le_refl _)
  have F3 : B_fr E_set h h3 := fun a k q => by
    rw [i3 a (fun w => by rw [w] at q; cases q)]
  unfold cr_settle
  rw [bc_0, ← nI_0, i1, i3 22 (by decide), e11, e6]
  unfold S_fin
  cases hs : x.2.1 with
  | none =>
    obtain ⟨h4, j1, j2, j3⟩ := hs_move_s ab (S_pl S Y K p b x) i2 W3
    refine ⟨h4, ?_, j2, F3.trans (j3.mono (fun a k q => by
      have := Nat.eq_of_beq_eq_true q
      subst this
      rfl))⟩
    show (if (-1 : Int32) = -1 then cr_settle_79 h3 else _) = _
    rw [if_pos rfl]
    unfold cr_settle_79
    rw [i3 22 (by decide), e6, e12, j1, B_bind, nI_0]
  | some t =>
    have ht := ex t hs
    have h10 := W.2.1
    have R4 := i2.tl t ab
    obtain ⟨h4, j1, j2, j3⟩ := hs_move_s ab (S_pl S Y K p b x) R4 (W3.tl ab)
    refine ⟨h4, ?_, j2, (((F3.w rfl).w rfl)).trans (j3.mono (fun a k q => by
      have := Nat.eq_of_beq_eq_true q
      subst this
      rfl))⟩
    show (if nI t = -1 then cr_settle_79 h3 else _) = _
    rw [if_neg (fun q => by rw [bn_eqm (by omega)] at q; exact q)]
    show px_bind (hs_tellTo (nI t) ab h3) _ = _
    rw [hs_tellTo_s ht ab i2 W3, B_bind]
    unfold cr_settle_79
    rw [B_w_cell _ _ _ (show (22 : Nat) ≠ 13 by decide), B_w_cell _ _ _ (show (22 : Nat) ≠ 12 by decide), i3 22 (by decide), e6, e12, j1, B_bind, nI_0]
end SETTLE
