/-! Layer B: a crossing, yard by yard, in the reference -/
def B_sl (a : Nat) : Prop := a = 52 ∨ a = 68 ∨ a = 70 ∨ a = 74 ∨ a = 78
theorem B_sl.t {a : Nat} (h : B_sl a) : px_tag a = 0 := by
  rcases h with rfl | rfl | rfl | rfl | rfl <;> rfl
theorem B_sl.l {a : Nat} (h : B_sl a) : px_len a = 52 := by
  rcases h with rfl | rfl | rfl | rfl | rfl <;> rfl
theorem B_sl.ne {a b : Nat} (h : B_sl a) (h1 : b ≠ 52) (h2 : b ≠ 68) (h3 : b ≠ 70) (h4 : b ≠ 74) (h5 : b ≠ 78) : b ≠ a := by
  rcases h with rfl | rfl | rfl | rfl | rfl
  · exact h1
  · exact h2
  · exact h3
  · exact h4
  · exact h5
def M_h (h : pH) (P T K Y : Nat) (S : pH) (ev : pE) : Prop := R_k h P T K Y S ∧ E_m (h 51 26) (h 63) ev
def E_g (a : Nat) : Nat → Nat → Bool := fun b k => match b with
  | 51 => [15, 16, 17, 18, 19, 27, 31, 32, 33].contains k
  | 64 => true
  | b => Nat.beq b a
theorem beq_ne {a b : Nat} (h : b ≠ a) : Nat.beq b a = false := by
  cases hq : Nat.beq b a with
  | false => rfl
  | true => exact absurd (Nat.eq_of_beq_eq_true hq) h
theorem E_fm_g (a : Nat) : ∀ b k, E_fm b k = true → E_g a b k = true := fun b k e => by
  unfold E_fm at e
  split at e
  · have : k = 15 ∨ k = 16 ∨ k = 17 ∨ k = 18 ∨ k = 19 ∨ k = 27 := by simpa using e
    rcases this with rfl | rfl | rfl | rfl | rfl | rfl <;> rfl
  · rfl
  · cases e
theorem E_a_g {a : Nat} (h : B_sl a) : ∀ b k, E_a a b k = true → E_g a b k = true := fun b k e => by
  have := Nat.eq_of_beq_eq_true e
  subst this
  rcases h with rfl | rfl | rfl | rfl | rfl <;> rfl
section GOES
variable {h : pH} {P T K Y D p b a : Nat} {S : pH} {ev : pE} {ab : Int32} {r : List Nat}
theorem M_h.fr {h' : pH} (M : M_h h P T K Y S ev) (ha : B_sl a) (x : B_fr (E_g a) h h') : M_h h' P T K Y S ev := by
  obtain ⟨R, E⟩ := M
  have c : ∀ b, b ≠ 51 → b ≠ 64 → b ≠ a → h' b = h b := fun b h1 h2 h3 => x.row b (fun k => by
    unfold E_g
    split
    · exact absurd rfl h1
    · exact absurd rfl h2
    · exact beq_ne h3)
  refine ⟨?_, ?_⟩
  · unfold R_k at *
    rw [x 51 4 rfl, x 51 6 rfl, x 51 2 rfl, x 51 1 rfl, c 54 (by decide) (by decide) (ha.ne (by decide) (by decide) (by decide) (by decide) (by decide)), c 55 (by decide) (by decide) (ha.ne (by decide) (by decide) (by decide) (by decide) (by decide)), c 56 (by decide) (by decide) (ha.ne (by decide) (by decide) (by decide) (by decide) (by decide)), c 57 (by decide) (by decide) (ha.ne (by decide) (by decide) (by decide) (by decide) (by decide)), c 53 (by decide) (by decide) (ha.ne (by decide) (by decide) (by decide) (by decide) (by decide))]
    exact R
  · rw [x 51 26 rfl, c 63 (by decide) (by decide) (ha.ne (by decide) (by decide) (by decide) (by decide) (by decide))]
    exact E
theorem M_row.fr {h' : pH} (M : M_row h r) (ha : B_sl a) (x : B_fr (E_g a) h h') : M_row h' r := by
  refine ⟨by rw [x 51 30 rfl]; exact M.1, M.2.1, fun k hk => ?_⟩
  rw [x 65 k (beq_ne (ha.ne (by decide) (by decide) (by decide) (by decide) (by decide)))]
  exact M.2.2 k hk
theorem mo_pressureOf_s {t : Nat} {Z : pH} (ht : t < T) (ha : B_sl a) (M : M_h h P T K Y S ev) (A : R_a h a P T Z) (W : R_w P T K Y S) (k y : Int32) : ∃ h', mo_pressureOf a (nI t) k y ab h = some (ev (S 5 t) k (Z 4 t) y (B_pc ab) (Z 6 t) (S_ab S ab t), h') ∧ B_fr E_fm h h' := by
  obtain ⟨⟨mP, mT, mK, mY, m0, m3, m5, m7, m10⟩, E⟩ := M
  obtain ⟨h6, h10, h5, hY2, hY60, w0, w1, w2, w4, w6, w7, w8, w9, w10, w11⟩ := W
  obtain ⟨a1, a2, a4, a8, a6, a9⟩ := A
  have h57 : h 57 t = -1 ∨ B_lt (h 57 t) 32 := by
    rw [m7 t ht]
    rcases w7 t ht with e | ⟨v, hv, e⟩
    · exact Or.inl e
    · exact Or.inr ⟨v, by omega, e⟩
  obtain ⟨h', e1, e2⟩ := E h a t rfl rfl ha.t ha.l (by omega) k y ab h57
  rw [m5 t ht, a4 t ht, a6 t ht, m7 t ht] at e1
  exact ⟨h', e1, e2⟩
theorem mo_put_s {Z : pH} (ha : B_sl a) (x : Int32) (hP : h 51 4 = nI P) (h6 : P ≤ 6) (A : R_a h a P T Z) : ∃ h', mo_put a ab x h = some (0, h') ∧ R_a h' a P T (S_mv Z ab x) ∧ B_fr (E_a a) h h' := by
  let g : Nat → pH → pH := fun k h => if B_bit ab k = true then px_w h a k x else h
  have ha51 : (51 : Nat) ≠ a := ha.ne (by decide) (by decide) (by decide) (by decide) (by decide)
  have hoA : ∀ k, k < 52 → px_ok 0 a (nI k) = true := fun k hk => px_ok_a ha.t ha.l hk
  refine ⟨B_fold g 0 P h, ?_, ?_, ?_⟩
  · unfold mo_put
    rw [bc_0, ← nI_0]
    refine B_loopI (fun n h k => mo_put_3 n a ab x (nI k) h) P g (fun h => some (nI 0, h)) (fun _ h => h 51 4 = nI P) (fun n h k hk hh => ?_) (fun n h hh => ?_) P 0 px_F h (by omega) (px_F_lt (by omega)) hP
    · constructor
      · simp (disch := omega) only [mo_put_3, mo_put_26, hh, mo_has_eq, hoA, bn_le, bn_lt, bn_eq, bn_le0, bn_0le, bn_lt0, bn_0lt, bn_eq0, bn_0eq, bn_eqm, bn_mlt0, bn_0lem, bn_m0, bn_mle0, bn_ltm, bn_mlt, bn_mle, bn_lem, nI_add, pk_mul, pk_sub, nI_clamp, B_n_nI, bn_0, bc_0, bc_m1, bc_1, bc_2, bc_3, bc_4, bc_5, bc_6, bc_7, bc_8, bc_9, bc_10, bc_11, bc_12, bc_13, bc_16, bc_22, bc_24, bc_32, bc_40, bc_41, bc_42, bc_43, bc_44, bc_45, bc_47, bc_48, bc_52, bc_57, bc_58, bc_59, bc_60, bc_61, bc_62, bc_63, bc_64, bc_76, bc_80, bc_97, bc_99, bc_105, bc_106, bc_107, bc_108, bc_109, bc_110, bc_111, bc_112, bc_113, bc_114, bc_115, bc_116, bc_117, bc_118, bc_119, bc_120, bc_121, bc_122, bc_255, bc_256, bc_400, bc_572, bc_999, bc_1024, bc_10000, bc_m2, bc_m3, bc_m8, bc_m100, bc_m200, B_bind, B_bind_if, B_ift, B_bz0, B_bz1, B_01_bz, B_01_e0, B_01_e1, if_pos, if_neg, reduceIte, Bool.false_eq_true, Bool.true_eq_false, g]
        by_cases q : B_bit ab k = true
        · simp [q, nI]
        · simp [q]
      · dsimp only [g]
        split
        · rw [B_w_cell _ _ _ ha51]
          exact hh
        · exact hh
    · simp (disch := omega) only [mo_put_3, hh, bn_le, bn_lt, bn_eq, bn_le0, bn_0le, bn_lt0, bn_0lt, bn_eq0, bn_0eq, bn_eqm, bn_mlt0, bn_0lem, bn_m0, bn_mle0, bn_ltm, bn_mlt, bn_mle, bn_lem, nI_add, pk_mul, pk_sub, nI_clamp, B_n_nI, bn_0, bc_0, bc_m1, bc_1, bc_2, bc_3, bc_4, bc_5, bc_6, bc_7, bc_8, bc_9, bc_10, bc_11, bc_12, bc_13, bc_16, bc_22, bc_24, bc_32, bc_40, bc_41, bc_42, bc_43, bc_44, bc_45, bc_47, bc_48, bc_52, bc_57, bc_58, bc_59, bc_60, bc_61, bc_62, bc_63, bc_64, bc_76, bc_80, bc_97, bc_99, bc_105, bc_106, bc_107, bc_108, bc_109, bc_110, bc_111, bc_112, bc_113, bc_114, bc_115, bc_116, bc_117, bc_118, bc_119, bc_120, bc_121, bc_122, bc_255, bc_256, bc_400, bc_572, bc_999, bc_1024, bc_10000, bc_m2, bc_m3, bc_m8, bc_m100, bc_m200, B_bind, B_bind_if, B_ift, B_bz0, B_bz1, B_01_bz, B_01_e0, B_01_e1, if_pos, if_neg, reduceIte, Bool.false_eq_true, Bool.true_eq_false]
  · have hI : ∀ m k (h0 : pH), k + m = P → (∀ j, h0 a j = if j < k ∧ B_bit ab j = true then x else h a j) → (∀ j, B_fold g k m h0 a j = if j < P ∧ B_bit ab j = true then x else h a j) := by
      intro m
      induction m with
      | zero =>
        intro k h0 hk e1 j
        show h0 a j = _
        rw [e1 j, show k = P by omega]
      | succ m ih =>
        intro k h0 hk e1
        refine ih (k + 1) (g k h0) (by omega) (fun j => ?_)
        dsimp only [g]
        by_cases q : B_bit ab k = true
        · rw [if_pos q, B_w_at]
          by_cases hjk : j = k
          · subst hjk
            rw [if_pos rfl, if_pos ⟨by omega, q⟩]
          · rw [if_neg hjk, e1 j]
            by_cases w : j < k ∧ B_bit ab j = true
            · rw [if_pos w, if_pos ⟨by omega, w.2⟩]
            · rw [if_neg w, if_neg (fun w2 => w ⟨by omega, w2.2⟩)]
        · rw [if_neg q, e1 j]
          by_cases w : j < k ∧ B_bit ab j = true
          · rw [if_pos w, if_pos ⟨by omega, w.2⟩]
          · rw [if_neg w]
            rw [if_neg (fun w2 => ?_)]
            by_cases hjk : j = k
            · subst hjk
              exact q w2.2
            · exact w ⟨by omega, w2.2⟩
    have f1 := hI P 0 h (by omega) (fun j => by rw [if_neg (by omega)])
    obtain ⟨a1, a2, a4, a8, a6, a9⟩ := A
    refine ⟨fun k hk => ?_, fun k hk => ?_, fun k hk => ?_, fun k hk => ?_, fun k hk => ?_, fun k hk => ?_⟩
    · rw [f1 k]
      unfold S_mv
      by_cases q : B_bit ab k = true
      · rw [if_pos ⟨hk, q⟩, if_pos ⟨rfl, q⟩]
      · rw [if_neg (fun w => q w.2), if_neg (fun w => q w.2), a1 k hk]
    · rw [f1, if_neg (by omega), a2 k hk]; rfl
    · rw [f1, if_neg (by omega), a4 k hk]; rfl
    · rw [f1, if_neg (by omega), a8 k hk]; rfl
    · rw [f1, if_neg (by omega), a6 k hk]; rfl
    · rw [f1, if_neg (by omega), a9 k hk]; rfl
  · refine B_fold_inv (g := g) (fun _ h' => B_fr (E_a a) h h') P 0 h (B_fr.refl _ _) (fun j h' _ _ f => ?_)
    dsimp only [g]
    split
    · exact f.w (Nat.beq_refl a)
    · exact f
/-- how it stands between two yards -/
def G_st (h : pH) (a P T K Y : Nat) (S : pH) (ev : pE) (r : List Nat) (Z : pH) (c : Nat) : Prop := M_h h P T K Y S ev ∧ R_a h a P T Z ∧ M_row h r ∧ h 51 31 = nI c ∧ h 51 32 = -1
def G_fin (h h' : pH) (a P T K Y : Nat) (S : pH) (ab : Int32) (p b : Nat) (X : Nat × Option Nat × pH) : Prop := R_a h' a P T (S_fin S Y K ab p b X) ∧ h' 51 31 = nI X.1 ∧ h' 51 32 = S_enc X.2.1 ∧ B_fr (E_g a) h h'
theorem G_fin.fr {h0 h' : pH} {X : Nat × Option Nat × pH} (f : B_fr (E_g a) h0 h) (g : G_fin h h' a P T K Y S ab p b X) : G_fin h0 h' a P T K Y S ab p b X := ⟨g.1, g.2.1, g.2.2.1, f.trans g.2.2.2⟩
/-- over -/
theorem mo_goes_over {Z : pH} {c i j n : Nat} (ha : B_sl a) (hp : p < 2 + K) (hb : b < 2) (hD : D ≤ 60) (W : R_w P T K Y S) (G : G_st h a P T K Y S ev r Z c) (hc : c = D) : ∃ h', mo_goes_25 (n + 1) a ab (nI p) (nI b) (nI D) (nI i) (nI j) h = some (nI 1, h') ∧ G_fin h h' a P T K Y S ab p b (c, none, Z) := by
  obtain ⟨M, A, Mr, g1, g2⟩ := G
  obtain ⟨h', e1, e2, e3⟩ := mo_put_s (ab := ab) ha (nI b) M.1.1 W.1 A
  have ha51 : (51 : Nat) ≠ a := ha.ne (by decide) (by decide) (by decide) (by decide) (by decide)
  refine ⟨h', ?_, e2, ?_, ?_, e3.mono (E_a_g ha)⟩
  · show (if nI D ≤ h 51 31 then _ else _) = _
    rw [g1, if_pos (nI_le (by omega) (by omega)), e1, B_bind, bc_1]
    rfl
  · rw [e3 51 31 (beq_ne ha51), g1]
  · rw [e3 51 32 (beq_ne ha51), g2]
    rfl
/-- somebody bursts out -/
theorem mo_goes_burst {Z : pH} {c t : Nat} (ha : B_sl a) (hp : p < 2 + K) (hb : b < 2) (hc : c ≤ 60) (ht : t < T) (W : R_w P T K Y S) (hZ : ∀ i k, i ≠ 4 → Z i k = S i k) (M : M_h h P T K Y S ev) (A : R_a h a P T Z) (g1 : h 51 31 = nI c) (g2 : h 51 32 = nI t) : ∃ h', mo_goes_110 a ab (nI p) (nI b) (nI t) h = some (0, h') ∧ G_fin h h' a P T K Y S ab p b (c, some t, Z) := by
  have h6 := W.1
  have h10 := W.2.1
  have ha51 : (51 : Nat) ≠ a := ha.ne (by decide) (by decide) (by decide) (by decide) (by decide)
  have hoA : ∀ k, k < 52 → px_ok 0 a (nI k) = true := fun k hk => px_ok_a ha.t ha.l hk
  have e42 : (px_w h a (22 + t) (nI 1)) a (42 + t) = S 9 t := by
    rw [B_w_at, if_neg (by omega), A.2.2.2.2.2 t ht, hZ 9 t (by decide)]
  have A2 : R_a (px_w (px_w h a (22 + t) (nI 1)) a (42 + t) (Z 9 t ||| ab)) a P T (S_tl Z t ab) := (A.w8 h6 h10 (by omega) (nI 1)).w9 h6 h10 (by omega) (Z 9 t ||| ab)
  have F2a : B_fr (E_a a) h (px_w (px_w h a (22 + t) (nI 1)) a (42 + t) (Z 9 t ||| ab)) := ((B_fr.refl (E_a a) h).w (show E_a a a (22 + t) = true from Nat.beq_refl a)).w (show E_a a a (42 + t) = true from Nat.beq_refl a)
  have F2 : B_fr (E_g a) h (px_w (px_w h a (22 + t) (nI 1)) a (42 + t) (Z 9 t ||| ab)) := ((B_fr.refl _ h).w (E_a_g ha _ _ (Nat.beq_refl a))).w (E_a_g ha _ _ (Nat.beq_refl a))
  have M2 := M.fr ha F2
  obtain ⟨h', e1, e2, e3⟩ := mo_put_s (ab := ab) ha (S_land S Y K p b c) M2.1.1 h6 A2
  refine ⟨h', ?_, e2, ?_, ?_, F2.trans (e3.mono (E_a_g ha))⟩
  · unfold mo_goes_110 mo_goes_129
    simp (disch := omega) only [hoA, bn_le, bn_lt, bn_eq, bn_le0, bn_0le, bn_lt0, bn_0lt, bn_eq0, bn_0eq, bn_eqm, bn_mlt0, bn_0lem, bn_m0, bn_mle0, bn_ltm, bn_mlt, bn_mle, bn_lem, nI_add, pk_mul, pk_sub, nI_clamp, B_n_nI, bn_0, bc_0, bc_m1, bc_1, bc_2, bc_3, bc_4, bc_5, bc_6, bc_7, bc_8, bc_9, bc_10, bc_11, bc_12, bc_13, bc_16, bc_22, bc_24, bc_32, bc_40, bc_41, bc_42, bc_43, bc_44, bc_45, bc_47, bc_48, bc_52, bc_57, bc_58, bc_59, bc_60, bc_61, bc_62, bc_63, bc_64, bc_76, bc_80, bc_97, bc_99, bc_105, bc_106, bc_107, bc_108, bc_109, bc_110, bc_111, bc_112, bc_113, bc_114, bc_115, bc_116, bc_117, bc_118, bc_119, bc_120, bc_121, bc_122, bc_255, bc_256, bc_400, bc_572, bc_999, bc_1024, bc_10000, bc_m2, bc_m3, bc_m8, bc_m100, bc_m200, B_ift, e42]
    rw [← hZ 9 t (by decide), mo_stranded_s hp hb hc (by rw [F2a 51 31 (beq_ne ha51), g1]) M2.1 W, B_bind, e1, B_bind]
    rfl
  · rw [e3 51 31 (beq_ne ha51), F2a 51 31 (beq_ne ha51), g1]
  · rw [e3 51 32 (beq_ne ha51), F2a 51 32 (beq_ne ha51), g2]
    rfl
theorem mo_goes_yard {Z : pH} {c0 t i L j n n' : Nat} (ha : B_sl a) (hp : p < 2 + K) (hb : b < 2) (hD : D ≤ 60) (ht : t < T) (hi : i < r.length) (hti : r.getD i 0 = t) (W : R_w P T K Y S) (hZ : ∀ i k, i ≠ 4 → Z i k = S i k) (hL40 : L ≤ 40) (hj : j < L) (hc : c0 + j < D) (G : G_st h a P T K Y S ev r (px_w Z 4 t (nI (L - j))) (c0 + j)) :
    (S_bu ev S ab t L c0 j = true → ∃ h', mo_goes_34 (mo_goes_25 n) (n' + 1) a ab (nI p) (nI b) (nI D) (nI i) (nI j) h = some (0, h') ∧ G_fin h h' a P T K Y S ab p b (c0 + j, some t, px_w Z 4 t (nI (L - j)))) ∧
    (¬ S_bu ev S ab t L c0 j = true → ∃ h1, mo_goes_34 (mo_goes_25 n) (n' + 1) a ab (nI p) (nI b) (nI D) (nI i) (nI j) h = mo_goes_25 n a ab (nI p) (nI b) (nI D) (nI i) (nI (j + 1)) h1 ∧ G_st h1 a P T K Y S ev r (px_w Z 4 t (nI (L - (j + 1)))) (c0 + j + 1) ∧ B_fr (E_g a) h h1) := by
  obtain ⟨M, A, Mr, g1, g2⟩ := G
  have h6 := W.1
  have h10 := W.2.1
  have hr6 := Mr.2.1
  have ha51 : (51 : Nat) ≠ a := ha.ne (by decide) (by decide) (by decide) (by decide) (by decide)
  have ha54 : (54 : Nat) ≠ a := ha.ne (by decide) (by decide) (by decide) (by decide) (by decide)
  have hoA : ∀ k, k < 52 → px_ok 0 a (nI k) = true := fun k hk => px_ok_a ha.t ha.l hk
  have e65 := Mr.2.2 i hi
  rw [hti] at e65
  have eL : h a (12 + t) = nI (L - j) := by rw [A.2.2.1 t ht, B_w_same]
  have e6 : px_w Z 4 t (nI (L - j)) 6 t = S 6 t := by rw [B_w_cell _ _ _ (by decide), hZ 6 t (by decide)]
  obtain ⟨v, hv, ev6⟩ := W.2.2.2.2.2.2.2.2.2.1 t ht
  have eho : S_ho S t = S 0 v := by
    unfold S_ho
    rw [ev6, B_n_nI (by omega)]
  obtain ⟨h1, p1, f1⟩ := mo_pressureOf_s (ab := ab) ht ha M A W (nI j) (nI (c0 + j))
  rw [B_w_same, e6] at p1
  have pP : ev (S 5 t) (nI j) (nI (L - j)) (nI (c0 + j)) (B_pc ab) (S 6 t) (S_ab S ab t) = S_P ev S ab t (nI j) (nI (L - j)) (nI (c0 + j)) := rfl
  rw [pP] at p1
  generalize hPP : S_P ev S ab t (nI j) (nI (L - j)) (nI (c0 + j)) = PP at *
  have F2 : B_fr (E_g a) h (px_w h1 51 33 PP) := (f1.mono (E_fm_g a)).w rfl
  have M2 := M.fr ha F2
  have A2 : R_a (px_w h1 51 33 PP) a P T (px_w Z 4 t (nI (L - j))) := A.cell (by rw [B_w_cell _ _ _ (Ne.symm ha51)]; exact f1.row a (fun k => by rcases ha with rfl | rfl | rfl | rfl | rfl <;> rfl))
  have e32 : (px_w h1 51 33 PP) a (32 + t) = nI v := by rw [A2.2.2.2.2.1 t ht, e6, ev6]
  have e54 : (px_w h1 51 33 PP) 54 v = S 0 v := M2.1.2.2.2.2.1 v hv
  have e12 : (px_w h1 51 33 PP) a (12 + t) = nI (L - j) := by rw [A2.2.2.1 t ht, B_w_same]
  have hz : mo_goes_34 (mo_goes_25 n) (n' + 1) a ab (nI p) (nI b) (nI D) (nI i) (nI j) h = if S_bu ev S ab t L c0 j = true then mo_goes_110 a ab (nI p) (nI b) (nI t) (px_w (px_w h1 51 33 PP) 51 32 (nI t)) else mo_goes_25 n a ab (nI p) (nI b) (nI D) (nI i) (nI (j + 1)) (px_w (px_w (px_w h1 51 33 PP) a (12 + t) (nI (L - (j + 1)))) 51 31 (nI (c0 + j + 1))) := by
    have q1 : px_ok 0 65 (nI i) = true := po_65 (by omega)
    have q0 : ¬ nI (L - j) = 0 := nI_ne0 (by omega) (by omega)
    have q31 : (px_w (px_w h1 51 33 PP) a (12 + t) (nI (L - (j + 1)))) 51 31 = nI (c0 + j) := by
      rw [B_w_cell _ _ _ ha51, B_w_at, if_neg (by decide), f1 51 31 rfl, g1]
    have qs : nI (L - j) - nI 1 = nI (L - (j + 1)) := by
      rw [pk_sub (by omega)]
      congr 1
    show px_if (px_ok 0 65 (nI i)) _ = _
    rw [q1, B_ift, nI_clamp (show i < 2 ^ 31 by omega), e65, bc_12, nI_add, hoA _ (by omega), B_ift, nI_clamp (show 12 + t < 2 ^ 31 by omega), eL, if_neg q0]
    simp only [bc_1, bc_22, bc_32, bc_42, q1, B_ift]
    rw [g1, p1, B_bind, nI_add, hoA _ (by omega), B_ift, nI_clamp (show 32 + t < 2 ^ 31 by omega), B_w_same, e32, po_54 (by omega), B_ift, nI_clamp (show v < 2 ^ 31 by omega), e54]
    unfold S_bu
    rw [hPP, eho]
    by_cases q : S 0 v < PP
    · rw [if_neg (Int32.not_le.mpr q), if_pos (decide_eq_true q)]
    · rw [if_pos (Int32.not_lt.mp q), if_neg (by simpa using q), nI_add 12 t, hoA _ (by omega), B_ift, B_ift, nI_clamp (show 12 + t < 2 ^ 31 by omega), e12, qs, q31, nI_add, nI_add]
  constructor
  · intro hb1
    rw [hz, if_pos hb1]
    have F3 : B_fr (E_g a) h (px_w (px_w h1 51 33 PP) 51 32 (nI t)) := F2.w rfl
    obtain ⟨h', x1, x2⟩ := mo_goes_burst (ab := ab) (c := c0 + j) ha hp hb (by omega) ht W (Z := px_w Z 4 t (nI (L - j))) (fun i k hi => by rw [B_w_cell _ _ _ hi]; exact hZ i k hi) (M.fr ha F3) (A2.cell (B_w_cell _ _ _ (Ne.symm ha51))) (by rw [B_w_at, if_neg (by decide), B_w_at, if_neg (by decide), f1 51 31 rfl, g1]) (B_w_same _ _ _ _)
    exact ⟨h', x1, x2.fr F3⟩
  · intro hb1
    rw [hz, if_neg hb1]
    have F3 : B_fr (E_g a) h (px_w (px_w (px_w h1 51 33 PP) a (12 + t) (nI (L - (j + 1)))) 51 31 (nI (c0 + j + 1))) := (F2.w (E_a_g ha _ _ (Nat.beq_refl a))).w rfl
    refine ⟨_, rfl, ⟨M.fr ha F3, ?_, Mr.fr ha F3, B_w_same _ _ _ _, ?_⟩, F3⟩
    · have A3 := (A2.w4 h6 h10 (p := t) (by omega) (nI (L - (j + 1)))).cell (h' := px_w (px_w (px_w h1 51 33 PP) a (12 + t) (nI (L - (j + 1)))) 51 31 (nI (c0 + j + 1))) (B_w_cell _ _ _ (Ne.symm ha51))
      rw [px_w_w] at A3
      exact A3
    · rw [B_w_at, if_neg (by decide), B_w_cell _ _ _ ha51, B_w_at, if_neg (by decide), f1 51 32 rfl, g2]
theorem mo_goes_yards {Z : pH} {c0 t i L m : Nat} (ha : B_sl a) (hp : p < 2 + K) (hb : b < 2) (hD : D ≤ 60) (ht : t < T) (hi : i < r.length) (hti : r.getD i 0 = t) (W : R_w P T K Y S) (hZ : ∀ i k, i ≠ 4 → Z i k = S i k) (hL : Z 4 t = nI L) (hL40 : L ≤ 40) (hm : m = min L (D - c0)) : ∀ (d j n n' : Nat) (h : pH), j + d + 1 = m → d < n → G_st h a P T K Y S ev r (px_w Z 4 t (nI (L - j))) (c0 + j) →
    (B_first (S_bu ev S ab t L c0) j (d + 1) < m → ∃ h', mo_goes_34 (mo_goes_25 n) (n' + 1) a ab (nI p) (nI b) (nI D) (nI i) (nI j) h = some (0, h') ∧ G_fin h h' a P T K Y S ab p b (c0 + B_first (S_bu ev S ab t L c0) j (d + 1), some t, px_w Z 4 t (nI (L - B_first (S_bu ev S ab t L c0) j (d + 1))))) ∧
    (¬ B_first (S_bu ev S ab t L c0) j (d + 1) < m → ∃ h1 n1, mo_goes_34 (mo_goes_25 n) (n' + 1) a ab (nI p) (nI b) (nI D) (nI i) (nI j) h = mo_goes_25 n1 a ab (nI p) (nI b) (nI D) (nI i) (nI m) h1 ∧ G_st h1 a P T K Y S ev r (px_w Z 4 t (nI (L - m))) (c0 + m) ∧ B_fr (E_g a) h h1 ∧ n1 + d = n) := by
  intro d
  induction d with
  | zero =>
    intro j n n' h hj hn G
    have hy := mo_goes_yard (ab := ab) (n := n) (n' := n') ha hp hb hD ht hi hti W hZ hL40 (show j < L by omega) (show c0 + j < D by omega) G
    have ef : B_first (S_bu ev S ab t L c0) j (0 + 1) = if S_bu ev S ab t L c0 j = true then j else j + 1 := rfl
    rw [ef]
    constructor
    · intro q
      by_cases hb1 : S_bu ev S ab t L c0 j = true
      · rw [if_pos hb1]
        exact hy.1 hb1
      · rw [if_neg hb1] at q
        exact absurd q (by omega)
    · intro q
      by_cases hb1 : S_bu ev S ab t L c0 j = true
      · rw [if_pos hb1] at q
        exact absurd q (by omega)
      · obtain ⟨h1, x1, x2, x3⟩ := hy.2 hb1
        have hjm : j + 1 = m := by omega
        rw [hjm] at x1 x2
        exact ⟨h1, n, x1, by rw [← hjm, ← Nat.add_assoc, hjm]; exact x2, x3, rfl⟩
  | succ d ih =>
    intro j n n' h hj hn G
    obtain ⟨n, rfl⟩ : ∃ n', n = n' + 1 := ⟨n - 1, by omega⟩
    have hy := mo_goes_yard (ab := ab) (n := n + 1) (n' := n') ha hp hb hD ht hi hti W hZ hL40 (show j < L by omega) (show c0 + j < D by omega) G
    have ef : B_first (S_bu ev S ab t L c0) j (d + 1 + 1) = if S_bu ev S ab t L c0 j = true then j else B_first (S_bu ev S ab t L c0) (j + 1) (d + 1) := rfl
    rw [ef]
    obtain ⟨nF, hF⟩ := px_F_pos (n := 0) (px_F_lt (by omega))
    by_cases hb1 : S_bu ev S ab t L c0 j = true
    · rw [if_pos hb1]
      exact ⟨fun _ => hy.1 hb1, fun q => absurd q (by omega)⟩
    · rw [if_neg hb1]
      obtain ⟨h1, x1, x2, x3⟩ := hy.2 hb1
      have e25 : mo_goes_25 (n + 1) a ab (nI p) (nI b) (nI D) (nI i) (nI (j + 1)) h1 = mo_goes_34 (mo_goes_25 n) (nF + 1) a ab (nI p) (nI b) (nI D) (nI i) (nI (j + 1)) h1 := by
        show (if nI D ≤ h1 51 31 then _ else _) = _
        rw [x2.2.2.2.1, if_neg (nI_ge (by omega) (by omega)), hF]
      obtain ⟨i1, i2⟩ := ih (j + 1) n nF h1 (by omega) (by omega) x2
      rw [x1, e25]
      constructor
      · intro q
        obtain ⟨h', y1, y2⟩ := i1 q
        exact ⟨h', y1, y2.fr x3⟩
      · intro q
        obtain ⟨h2, n1, y1, y2, y3, y4⟩ := i2 q
        exact ⟨h2, n1, y1, y2, x3.trans y3, by omega⟩
theorem foldl_some (l : List Nat) (x : Nat × Option Nat × pH) {t : Nat} (hx : x.2.1 = some t) : l.foldl (S_st ev S D ab) x = x := by
  induction l with
  | nil => rfl
  | cons u l ih =>
    rw [List.foldl_cons]
    have : S_st ev S D ab x u = x := by
      unfold S_st
      rw [hx]
    rw [this]
    exact ih
theorem foldl_done : ∀ (l : List Nat) (x : Nat × Option Nat × pH), x.1 = D → x.2.1 = none → (∀ t, t ∈ l → t < T) → R_w P T K Y x.2.2 → l.foldl (S_st ev S D ab) x = x := by
  intro l
  induction l with
  | nil => intro x _ _ _ _; rfl
  | cons u l ih =>
    intro x h1 h2 h3 W
    have hu := B_lt_n (by omega) (W.2.2.2.2.2.2.2.2.1 u (h3 u List.mem_cons_self))
    rw [List.foldl_cons]
    have hs : S_st ev S D ab x u = x := by
      unfold S_st
      rw [h2]
      try dsimp only
      have e0 : min (B_n (x.2.2 4 u)) (D - x.1) = 0 := by omega
      rw [e0]
      have e1 : B_first (S_bu ev S ab u (B_n (x.2.2 4 u)) x.1) 0 0 = 0 := rfl
      rw [e1, if_neg (by omega), Nat.sub_zero, px_w_id hu.2]
      obtain ⟨x1, x2, x3⟩ := x
      dsimp only at h2 ⊢
      rw [h2]
      rfl
    rw [hs]
    exact ih x h1 h2 (fun t ht => h3 t (List.mem_cons_of_mem _ ht)) W
theorem mo_goes_things (ha : B_sl a) (hp : p < 2 + K) (hb : b < 2) (hD : D ≤ 60) (W : R_w P T K Y S) (hr : r_in r T) (hnd : r.Nodup) : ∀ (l : List Nat) (i c n n' : Nat) (Z : pH) (h : pH), r.drop i = l → c < D → D - c ≤ n → l.length < n' → (∀ i k, i ≠ 4 → Z i k = S i k) → R_w P T K Y Z → D - c ≤ (l.map fun t => B_n (Z 4 t)).sum → G_st h a P T K Y S ev r Z c → ∃ h', mo_goes_34 (mo_goes_25 n) n' a ab (nI p) (nI b) (nI D) (nI i) 0 h = some (if (l.foldl (S_st ev S D ab) (c, none, Z)).2.1 = none then nI 1 else 0, h') ∧ G_fin h h' a P T K Y S ab p b (l.foldl (S_st ev S D ab) (c, none, Z)) := by
  intro l
  induction l with
  | nil =>
    intro i c n n' Z h _ hc _ _ _ _ hw
    exact absurd hw (by simp only [List.map_nil, List.sum_nil]; omega)
  | cons t l ih =>
    intro i c n n' Z h hdr hc hn hn' hZ WZ hw G
    obtain ⟨n', rfl⟩ : ∃ n2, n' = n2 + 1 := ⟨n' - 1, by omega⟩
    have hi : i < r.length := by
      by_cases q : i < r.length
      · exact q
      · rw [List.drop_eq_nil_of_le (by omega)] at hdr
        cases hdr
    have hdr2 := List.drop_eq_getElem_cons hi
    rw [hdr] at hdr2
    have ht0 : t = r[i] := (List.cons.inj hdr2).1
    have hl0 : r.drop (i + 1) = l := (List.cons.inj hdr2).2.symm
    have hti : r.getD i 0 = t := by
      rw [List.getD_eq_getElem?_getD, List.getElem?_eq_getElem hi, ht0]
      rfl
    have htT : t < T := by
      rw [← hti]
      exact hr i hi
    have htl : t ∉ l := by
      have h1 : (t :: l).Nodup := by
        rw [← hdr]
        exact hnd.sublist (List.drop_sublist _ _)
      exact (List.nodup_cons.mp h1).1
    have hlT : ∀ u, u ∈ l → u < T := fun u hu => r_in_mem hr u (by
      rw [← hl0] at hu
      exact List.mem_of_mem_drop hu)
    have hL := B_lt_n (by omega) (WZ.2.2.2.2.2.2.2.2.1 t htT)
    generalize hLL : B_n (Z 4 t) = L at *
    rw [List.map_cons, List.sum_cons, hLL] at hw
    have hoA : ∀ k, k < 52 → px_ok 0 a (nI k) = true := fun k hk => px_ok_a ha.t ha.l hk
    have h10 := W.2.1
    have hr6 := G.2.2.1.2.1
    -- an empty thing is passed over
    have hskip : ∀ (n n' j : Nat) (h : pH), G_st h a P T K Y S ev r (px_w Z 4 t (nI 0)) c ∨ True → h 65 i = nI t → h a (12 + t) = 0 → mo_goes_34 (mo_goes_25 n) (n' + 1) a ab (nI p) (nI b) (nI D) (nI i) (nI j) h = mo_goes_34 (mo_goes_25 n) n' a ab (nI p) (nI b) (nI D) (nI (i + 1)) 0 h := by
      intro n n' j h _ e65 e12
      show px_if (px_ok 0 65 (nI i)) _ = _
      rw [po_65 (by omega), B_ift, nI_clamp (show i < 2 ^ 31 by omega), e65, bc_12, nI_add, hoA _ (by omega), B_ift, nI_clamp (show 12 + t < 2 ^ 31 by omega), e12, if_pos rfl, bc_1, nI_add, bc_0]
    have hst : (t :: l).foldl (S_st ev S D ab) (c, none, Z) = l.foldl (S_st ev S D ab) (c + B_first (S_bu ev S ab t L c) 0 (min L (D - c)), if B_first (S_bu ev S ab t L c) 0 (min L (D - c)) < min L (D - c) then some t else none, px_w Z 4 t (nI (L - B_first (S_bu ev S ab t L c) 0 (min L (D - c))))) := by
      rw [List.foldl_cons]
      unfold S_st
      try dsimp only
      rw [hLL]
    have hsum : ∀ v, (l.map fun u => B_n (px_w Z 4 t v 4 u)).sum = (l.map fun u => B_n (Z 4 u)).sum := by
      intro v
      congr 1
      refine List.map_congr_left (fun u hu => ?_)
      rw [B_w_at, if_neg (fun q => htl (by rw [← q]; exact hu))]
    have e65 : h 65 i = nI t := by rw [G.2.2.1.2.2 i hi, hti]
    rw [hst]
    by_cases hL0 : L = 0
    · subst hL0
      have e1 : B_first (S_bu ev S ab t 0 c) 0 (min 0 (D - c)) = 0 := by
        rw [Nat.zero_min]
        rfl
      have e2 : h a (12 + t) = 0 := by rw [G.2.1.2.2.1 t htT, hL.2, nI_0]
      rw [e1, Nat.zero_min, if_neg (Nat.lt_irrefl 0), Nat.add_zero, px_w_id (by rw [hL.2])]
      have := hskip n n' 0 h (Or.inr trivial) e65 e2
      rw [nI_0] at this
      rw [this]
      exact ih (i + 1) c n n' Z h hl0 hc hn (by simp only [List.length_cons] at hn'; omega) hZ WZ (by omega) G
    · have Z0 : px_w Z 4 t (nI (L - 0)) = Z := px_w_id (by rw [hL.2]; rfl)
      have em : min L (D - c) - 1 + 1 = min L (D - c) := by omega
      have em1 : 0 + (min L (D - c) - 1) + 1 = min L (D - c) := by omega
      have em2 : min L (D - c) - 1 < n := by omega
      have hL40 : L ≤ 40 := by omega
      have hle := (B_first_le (S_bu ev S ab t L c) (min L (D - c)) 0).2
      by_cases hk : B_first (S_bu ev S ab t L c) 0 (min L (D - c)) < min L (D - c)
      · obtain ⟨h', x1, x2⟩ : ∃ h', mo_goes_34 (mo_goes_25 n) (n' + 1) a ab (nI p) (nI b) (nI D) (nI i) 0 h = some (0, h') ∧ G_fin h h' a P T K Y S ab p b (c + B_first (S_bu ev S ab t L c) 0 (min L (D - c)), some t, px_w Z 4 t (nI (L - B_first (S_bu ev S ab t L c) 0 (min L (D - c))))) := by
          have hy := mo_goes_yards (ev := ev) (ab := ab) (m := min L (D - c)) (c0 := c) (L := L) ha hp hb hD htT hi hti W hZ hL.2 hL40 rfl (min L (D - c) - 1) 0 n n' h em1 em2 (by rw [Z0]; exact G)
          rw [em, nI_0] at hy
          exact hy.1 hk
        rw [if_pos hk, foldl_some l _ (t := t) rfl]
        exact ⟨h', by rw [x1]; rfl, x2⟩
      · obtain ⟨h1, n1, x1, x2, x3, x4⟩ : ∃ h1 n1, mo_goes_34 (mo_goes_25 n) (n' + 1) a ab (nI p) (nI b) (nI D) (nI i) 0 h = mo_goes_25 n1 a ab (nI p) (nI b) (nI D) (nI i) (nI (min L (D - c))) h1 ∧ G_st h1 a P T K Y S ev r (px_w Z 4 t (nI (L - min L (D - c)))) (c + min L (D - c)) ∧ B_fr (E_g a) h h1 ∧ n1 + (min L (D - c) - 1) = n := by
          have hy := mo_goes_yards (ev := ev) (ab := ab) (m := min L (D - c)) (c0 := c) (L := L) ha hp hb hD htT hi hti W hZ hL.2 hL40 rfl (min L (D - c) - 1) 0 n n' h em1 em2 (by rw [Z0]; exact G)
          rw [em, nI_0] at hy
          exact hy.2 hk
        have hkm : B_first (S_bu ev S ab t L c) 0 (min L (D - c)) = min L (D - c) := by omega
        rw [if_neg hk, hkm, x1]
        have W1 := WZ.w4 t (v := L - min L (D - c)) (by omega)
        by_cases hfin : c + min L (D - c) = D
        · obtain ⟨n1, rfl⟩ : ∃ n2, n1 = n2 + 1 := ⟨n1 - 1, by omega⟩
          obtain ⟨h', y1, y2⟩ := mo_goes_over (ab := ab) (i := i) (j := min L (D - c)) (n := n1) ha hp hb hD W x2 hfin
          rw [foldl_done l _ hfin rfl hlT W1]
          exact ⟨h', by rw [y1]; rfl, y2.fr x3⟩
        · have hmL : min L (D - c) = L := by omega
          rw [hmL] at x2 x4 hfin W1 ⊢
          obtain ⟨n1, rfl⟩ : ∃ n2, n1 = n2 + 1 := ⟨n1 - 1, by omega⟩
          obtain ⟨nF, hF⟩ := px_F_pos (n := 0) (px_F_lt (by omega))
          have hnF : l.length < nF := by
            have h7 : (7 : Nat) < px_F := px_F_lt (by omega)
            have h8 : l.length ≤ r.length := by rw [← hl0, List.length_drop]; omega
            omega
          have e25 : mo_goes_25 (n1 + 1) a ab (nI p) (nI b) (nI D) (nI i) (nI L) h1 = mo_goes_34 (mo_goes_25 n1) (nF + 1) a ab (nI p) (nI b) (nI D) (nI i) (nI L) h1 := by
            show (if nI D ≤ h1 51 31 then _ else _) = _
            rw [x2.2.2.2.1, if_neg (nI_ge (by omega) (by omega)), hF]
          have e2 : h1 a (12 + t) = 0 := by rw [x2.2.1.2.2.1 t htT, B_w_same, Nat.sub_self, nI_0]
          have e65' : h1 65 i = nI t := by rw [x2.2.2.1.2.2 i hi, hti]
          rw [e25, hskip n1 nF L h1 (Or.inr trivial) e65' e2]
          obtain ⟨h', y1, y2⟩ := ih (i + 1) (c + L) n1 nF (px_w Z 4 t (nI (L - L))) h1 hl0 (by omega) (by omega) hnF (fun i k hi => by rw [B_w_cell _ _ _ hi]; exact hZ i k hi) W1 (by rw [hsum]; omega) x2
          exact ⟨h', y1, y2.fr x3⟩
/-- a crossing by a row that has words enough -/
theorem mo_goes_s {Z : pH} (ha : B_sl a) (hp : p < 2 + K) (hb : b < 2) (W : R_w P T K Y S) (hr : r_in r T) (hnd : r.Nodup) (hZ : Z = S) (hw : S_dist S Y p b ≤ S_wds S r) (M : M_h h P T K Y S ev) (A : R_a h a P T S) (Mr : M_row h r) : ∃ h', mo_goes a ab (nI p) (nI b) h = some (if (S_go ev S (S_dist S Y p b) ab r).2.1 = none then nI 1 else 0, h') ∧ G_fin h h' a P T K Y S ab p b (S_go ev S (S_dist S Y p b) ab r) := by
  have l1 := S_yd_le W hp
  have l2 := S_yd_le W (show b < 2 + K by omega)
  have hD : S_dist S Y p b ≤ 60 := by unfold S_dist; omega
  have F : B_fr (E_g a) h (px_w (px_w h 51 31 0) 51 32 (-1)) := ((B_fr.refl _ h).w rfl).w rfl
  have ha51 : (51 : Nat) ≠ a := ha.ne (by decide) (by decide) (by decide) (by decide) (by decide)
  have G : G_st (px_w (px_w h 51 31 0) 51 32 (-1)) a P T K Y S ev r S 0 := ⟨M.fr ha F, A.cell (by rw [B_w_cell _ _ _ (Ne.symm ha51), B_w_cell _ _ _ (Ne.symm ha51)]), Mr.fr ha F, by rw [B_w_at, if_neg (by decide), B_w_same, nI_0], B_w_same _ _ _ _⟩
  have hz : mo_goes a ab (nI p) (nI b) h = mo_goes_25 px_F a ab (nI p) (nI b) (nI (S_dist S Y p b)) 0 0 (px_w (px_w h 51 31 0) 51 32 (-1)) := by
    unfold mo_goes
    rw [mo_distance_s hp (show b < 2 + K by omega) M.1 W, B_bind, bc_0, bc_m1]
  obtain ⟨nF, hF⟩ := px_F_pos (n := 0) (px_F_lt (by omega))
  have h99 : (99 : Nat) < px_F := px_F_lt (by omega)
  have hr6 := Mr.2.1
  rw [hz]
  generalize S_dist S Y p b = D at *
  unfold S_go
  by_cases h0 : D = 0
  · subst h0
    obtain ⟨h', y1, y2⟩ := mo_goes_over (ab := ab) (D := 0) (i := 0) (j := 0) (n := nF) ha hp hb (by omega) W G rfl
    rw [nI_0] at y1
    rw [hF, nI_0, y1, foldl_done (T := T) (P := P) (K := K) (Y := Y) r (0, none, S) rfl rfl (r_in_mem hr) W]
    exact ⟨h', rfl, y2.fr F⟩
  · have e25 : mo_goes_25 (nF + 1) a ab (nI p) (nI b) (nI D) 0 0 (px_w (px_w h 51 31 0) 51 32 (-1)) = mo_goes_34 (mo_goes_25 nF) px_F a ab (nI p) (nI b) (nI D) (nI 0) 0 (px_w (px_w h 51 31 0) 51 32 (-1)) := by
      show (if nI D ≤ (px_w (px_w h 51 31 0) 51 32 (-1)) 51 31 then _ else _) = _
      rw [G.2.2.2.1, if_neg (nI_ge (by omega) (by omega)), nI_0]
    obtain ⟨h', y1, y2⟩ := mo_goes_things (ev := ev) (ab := ab) (D := D) ha hp hb hD W hr hnd r 0 0 nF px_F S _ rfl (by omega) (by omega) (by omega) (fun _ _ _ => rfl) W (by rw [Nat.sub_zero]; exact hw) G
    rw [hF, e25, y1]
    exact ⟨h', rfl, y2.fr F⟩
end GOES
