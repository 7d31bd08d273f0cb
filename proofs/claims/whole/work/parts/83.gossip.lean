/-! Layer B: said, passed on, sold: the class's and the reference: say, whisper, sell -/
section GOSSIP
variable {i : Nat} {h : pH} {P T K Y U s : Nat} {S : pH}
/-- who hears it -/
def S_hear (S : pH) (P p t : Nat) : Int32 := S_at S P (S 1 p) &&& (S 9 t ^^^ -1)
theorem S_nsay_0 {x y : Int32} (W : R_w P T K Y S) (h0 : 0 ≤ S_nsay S P T x y) : ∃ p t, p < P ∧ t < T ∧ x = nI p ∧ y = nI t ∧ S 6 t = nI p := by
  have h6 := W.1
  have h10 := W.2.1
  unfold S_nsay at h0
  by_cases q : (B_is x P && B_is y T && decide (S 6 (B_n y) = x)) = true
  · simp only [Bool.and_eq_true, decide_eq_true_eq] at q
    obtain ⟨p, hp, rfl⟩ := B_is_ex q.1.1 (by omega)
    obtain ⟨t, ht, rfl⟩ := B_is_ex q.1.2 (by omega)
    rw [B_n_nI (by omega)] at q
    exact ⟨p, t, hp, ht, rfl, rfl, q.2⟩
  · rw [if_neg q] at h0
    exact absurd h0 (by decide)
theorem hs_speak_0 {p t : Nat} (hp : p < P) (ht : t < T) (h0 : 0 ≤ S_nsay S P T (nI p) (nI t)) (R : R_c h P T K Y S) (W : R_w P T K Y S) : hs_speak (nI p) (nI t) h = some (B_pc (S_hear S P p t), px_w (px_w h 12 t (nI 1)) 13 t (S 9 t ||| S_hear S P p t)) := by
  unfold hs_speak
  rw [hs_whyNotSay_s _ _ R W, B_bind, if_pos h0, hs_newTo_s hp ht R W, B_bind, hs_tellTo_s ht _ R W, B_bind, jn_bitCount_eq, B_bind]
  rfl
theorem hs_speak_n {x y : Int32} (h0 : ¬ 0 ≤ S_nsay S P T x y) (R : R_c h P T K Y S) (W : R_w P T K Y S) : hs_speak x y h = some (S_nsay S P T x y, h) := by
  unfold hs_speak
  rw [hs_whyNotSay_s _ _ R W, B_bind, if_neg h0]
theorem S_hear_eq {p t : Nat} (ht : t < T) (hw : S 6 t = nI p) (hp : p < P) (W : R_w P T K Y S) : (S_at S P (S 1 p) &&& (S 9 t ^^^ -1)) &&& ((nI 1 <<< (nI p &&& 31)) ^^^ -1) = S_hear S P p t ∧ S 9 t ||| S_at S P (S 1 p) = S 9 t ||| S_hear S P p t := by
  have h6 := W.1
  have w9 := W.2.2.2.2.2.2.2.2.2.2.2.2.1 t ht
  rw [hw, B_n_nI (by omega)] at w9
  unfold S_hear
  constructor
  · refine B_ext fun k hk => ?_
    rw [B_bit_and, B_bit_and, B_bit_not _ hk, B_bit_not _ hk, B_bit_sh (by omega) hk]
    by_cases q : k = p
    · subst q
      rw [w9]
      simp
    · rw [decide_eq_false q]
      simp
  · refine B_ext fun k hk => ?_
    rw [B_bit_or, B_bit_or, B_bit_and, B_bit_not _ hk]
    cases B_bit (S 9 t) k <;> cases B_bit (S_at S P (S 1 p)) k <;> rfl
theorem mo_goSay_s {p t : Nat} (hp : p < P) (ht : t < T) (hw : S 6 t = nI p) (R : R_m h P T K Y S) (W : R_w P T K Y S) : mo_goSay (nI p) (nI t) h = some (B_pc (S_hear S P p t), px_w (px_w h 52 (22 + t) (nI 1)) 52 (42 + t) (S 9 t ||| S_hear S P p t)) := by
  have h6 := W.1
  have h10 := W.2.1
  have R' := R
  obtain ⟨⟨mP, mT, mK, mY, m0, m3, m5, m7, m10⟩, ⟨a1, a2, a4, a8, a6, a9⟩⟩ := R
  obtain ⟨e1, e2⟩ := S_hear_eq ht hw hp W
  unfold mo_goSay mo_goSay_58
  simp (disch := omega) only [a1, a9, mo_peopleAt_s _ R' W, jn_bitCount_eq, bn_le, bn_lt, bn_eq, bn_le0, bn_0le, bn_lt0, bn_0lt, bn_eq0, bn_0eq, bn_eqm, bn_mlt0, bn_0lem, bn_m0, bn_mle0, bn_ltm, bn_mlt, bn_mle, bn_lem, nI_add, pk_mul, pk_sub, nI_clamp, B_n_nI, bn_0, bc_0, bc_m1, bc_1, bc_2, bc_3, bc_4, bc_5, bc_6, bc_7, bc_8, bc_9, bc_10, bc_11, bc_12, bc_13, bc_16, bc_22, bc_24, bc_32, bc_40, bc_41, bc_42, bc_43, bc_44, bc_45, bc_47, bc_48, bc_52, bc_57, bc_58, bc_59, bc_60, bc_61, bc_62, bc_63, bc_64, bc_76, bc_80, bc_97, bc_99, bc_105, bc_106, bc_107, bc_108, bc_109, bc_110, bc_111, bc_112, bc_113, bc_114, bc_115, bc_116, bc_117, bc_118, bc_119, bc_120, bc_121, bc_122, bc_255, bc_256, bc_400, bc_572, bc_999, bc_1024, bc_10000, bc_m2, bc_m3, bc_m8, bc_m100, bc_m200, B_bind, B_ift, po_52, pz_52, po_53, pz_53, po_54, pz_54, po_55, pz_55, po_56, pz_56, po_57, pz_57, po_58, pz_58, po_59, pz_59, po_60, pz_60, po_61, pz_61, po_62, pz_62, po_63, pz_63, po_64, pz_64, po_65, pz_65, po_66, pz_66, po_67, pz_67, po_68, pz_68, po_69, pz_69, po_70, pz_70, po_71, pz_71, po_72, pz_72, po_73, pz_73, po_74, pz_74, po_75, pz_75, po_76, pz_76, po_77, pz_77, po_78, pz_78, po_79, pz_79, po_80, pz_80, po_81, pz_81, B_w_same, B_w_cell, B_w_at, if_neg]
  rw [e1, e2]
/-- the thing is said, by one -/
theorem S_say_W {p t : Nat} (W : R_w P T K Y S) : R_w P T K Y (S_tl S t (S_hear S P p t)) := W.tl _
theorem R_c.cs {h' : pH} (R : R_c h P T K Y S) (e : ∀ a, 3 ≤ a → a ≤ 15 → h' a = h a) : R_c h' P T K Y S := by
  unfold R_c at *
  rw [e 3 (by omega) (by omega), e 14 (by omega) (by omega), e 4 (by omega) (by omega), e 5 (by omega) (by omega), e 6 (by omega) (by omega), e 7 (by omega) (by omega), e 8 (by omega) (by omega), e 9 (by omega) (by omega), e 10 (by omega) (by omega), e 11 (by omega) (by omega), e 12 (by omega) (by omega), e 13 (by omega) (by omega), e 15 (by omega) (by omega)]
  exact R
theorem R_k.cs {h' : pH} (R : R_k h P T K Y S) (e : ∀ k, k = 1 ∨ k = 2 ∨ k = 4 ∨ k = 6 → h' 51 k = h 51 k) (e2 : ∀ a, 53 ≤ a → a ≤ 57 → h' a = h a) : R_k h' P T K Y S := by
  unfold R_k at *
  rw [e 4 (by omega), e 6 (by omega), e 2 (by omega), e 1 (by omega), e2 54 (by omega) (by omega), e2 55 (by omega) (by omega), e2 56 (by omega) (by omega), e2 57 (by omega) (by omega), e2 53 (by omega) (by omega)]
  exact R
/-- what becomes of the rest, when a state was staged and remembered -/
theorem I_h.push {h2 : pH} {Z : pH} {n n2 : Nat} {ev : pE} (I : I_h h P T K Y i n S ev) (u : I_us h P T K U s) (R2 : R_c h2 P T K Y Z) (M2 : R_m h2 P T K Y Z) (W2 : R_w P T K Y Z) (X2 : I_txt h2 n2) (e17 : h2 17 4 = h 17 4) (e18 : h2 18 = h 18) (e42 : h2 42 = B_sv (52 * s) h 42) (e412 : h2 41 2 = nI (min (U + 1) 12)) (e413 : h2 41 3 = nI ((s + 1) % 13)) (e411 : h2 41 1 = h 41 1) (e35 : h2 51 35 = nI (min (U + 1) 12)) (e51 : ∀ k, k = 26 ∨ k = 60 → h2 51 k = h 51 k) (e63 : h2 63 = h 63) (e79 : h2 79 = h 79) (e80 : h2 80 = h 80) (e81 : h2 81 = h 81) (ea : ∀ k, k < 52 → h2 66 (52 * min U 11 + k) = h 52 k) (eb : ∀ j, j < min U 11 → ∀ k, k < 52 → h2 66 (52 * j + k) = h 66 (52 * (j + (U - min U 11)) + k)) : I_h h2 P T K Y i n2 Z ev := by
  obtain ⟨R, M, W, X, V, E, L⟩ := I
  have h6 := W.1
  have h10 := W.2.1
  have uS := u.stage h6 h10
  obtain ⟨s1, -, -, s4⟩ := B_sv_inv (h := h) (b := 52 * s)
  have qa : Q_m (h 52) 0 P T S := by
    have := M.2
    unfold R_a at this
    unfold Q_m
    simp only [Nat.zero_add]
    exact this
  refine ⟨R2, M2, W2, X2, ⟨min (U + 1) 12, (s + 1) % 13, ?_⟩, ?_, ?_⟩
  · exact uS.push h6 h10 (R_w_wm W) (B_sv_Q R W) qa e42 e412 e413 e35 ea (fun j hj k hk => by rw [s1 66 (by decide)]; exact eb j hj k hk)
  · have E2 := E.stage (s := s) u.2.1 h6 h10
    unfold I_kep at *
    rw [s1 41 (by decide), s1 51 (by decide), s1 80 (by decide), s1 81 (by decide), s1 79 (by decide)] at E2
    rw [e411, e42, e51 60 (Or.inr rfl), e79, e80, e81]
    exact E2
  · unfold I_rul at *
    rw [e17, e18, e63, e51 26 (Or.inl rfl)]
    exact L
/-- one that is remembered: on the class's side staged, done, committed; on the reference's asked, remembered, done -/
theorem B_gos {n : Nat} {ev : pE} {Z : pH} {why rr : Int32} {fc fm0 fm gc gm : pH → pR} {hc hm : pH → pH} (I : I_h h P T K Y i n S ev) (r : I_row h) (hrr : 0 ≤ why → ¬ rr < 0) (W2 : 0 ≤ why → R_w P T K Y Z) (hZ : ∀ i k, i ≠ 1 → i ≠ 2 → i ≠ 4 → i ≠ 6 → i ≠ 8 → i ≠ 9 → Z i k = S i k)
    (efc : ∀ hh, fc hh = px_bind (me_stage hh) fun _ h2 => px_bind (gc h2) fun z3 h4 => px_bind (wu_remembered z3 h4) fun z5 h6 => some (z5, h6))
    (efm : ∀ hh, fm hh = px_bind (fm0 (B_t0 hh)) fun z2 h3 => if 0 ≤ z2 then px_bind (mo_remember 52 h3) fun _ h5 => px_bind (gm h5) fun z6 h7 => some (z6, h7) else some (z2, h3))
    (c0 : ¬ 0 ≤ why → ∀ hh, R_c hh P T K Y S → gc hh = some (why, hh)) (c1 : 0 ≤ why → ∀ hh, R_c hh P T K Y S → gc hh = some (rr, hc hh) ∧ R_c (hc hh) P T K Y Z ∧ ∀ a, a ≠ 5 → a ≠ 6 → a ≠ 8 → a ≠ 10 → a ≠ 12 → a ≠ 13 → hc hh a = hh a)
    (m0 : ∀ hh, R_m hh P T K Y S → fm0 hh = some (why, hh)) (m1 : 0 ≤ why → ∀ hh, R_m hh P T K Y S → gm hh = some (rr, hm hh) ∧ R_a (hm hh) 52 P T Z ∧ ∀ a, a ≠ 52 → hm hh a = hh a) : ∃ r h1 h2, fc h = some (r, h1) ∧ fm h1 = some (r, h2) ∧ Inv (i + 5) h2 := by
  obtain ⟨U, s, u⟩ : ∃ U s, I_us h P T K U s := I.2.2.2.2.1
  have IS := I.stage u
  have h6 := I.2.2.1.1
  have h10 := I.2.2.1.2.1
  obtain ⟨s1, -, -, s4⟩ := B_sv_inv (h := h) (b := 52 * s)
  have hst := me_stage_s u
  generalize hB : B_sv (52 * s) h = hb at *
  have MB : R_m (B_t0 hb) P T K Y S := IS.2.1.sm (B_t0_fr hb).sm_d
  by_cases hw : 0 ≤ why
  · obtain ⟨q1, q2, q3⟩ := c1 hw hb IS.1
    have uS := u.stage h6 h10
    rw [hB] at uS
    obtain ⟨u1, u2, u3, u4, u5, u6⟩ := uS
    have c41 : hc hb 41 = hb 41 := q3 41 (by decide) (by decide) (by decide) (by decide) (by decide) (by decide)
    have hco := me_commit_s (h := hc hb) u1 u2 (by rw [c41]; exact u3) (by rw [c41]; exact u4)
    generalize hH1 : px_w (px_w (hc hb) 41 3 (nI ((s + 1) % 13))) 41 2 (nI (min (U + 1) 12)) = h1 at *
    have e1 : ∀ a, a ≠ 41 → h1 a = hc hb a := fun a ha => by rw [← hH1, B_w_cell _ _ _ ha, B_w_cell _ _ _ ha]
    have e1m : ∀ a, 42 ≤ a → h1 a = hb a := fun a ha => by rw [e1 a (by omega), q3 a (by omega) (by omega) (by omega) (by omega) (by omega) (by omega)]
    have et : ∀ a, a ≠ 51 → (B_t0 h1) a = h1 a := fun a ha => B_t0_row h1 ha
    have M1 : R_m (B_t0 h1) P T K Y S := by
      refine R_m.sm ?_ (B_t0_fr h1).sm_d
      have := IS.2.1
      unfold R_m R_k R_a at *
      rw [e1m 51 (by omega), e1m 54 (by omega), e1m 52 (by omega), e1m 55 (by omega), e1m 56 (by omega), e1m 57 (by omega), e1m 53 (by omega)]
      exact this
    obtain ⟨hR, p1, p2, p3, p4, p5, p6⟩ := mo_remember_s (h := B_t0 h1) (a := 52) (U := U) rfl rfl (by decide) (by decide) u1 (by rw [B_t0_at h1 (by decide), e1m 51 (by omega)]; exact u5)
    have MR : R_m hR P T K Y S := ⟨M1.1.cs (fun k hk => p4 k (by omega)) (fun a h1 h2 => p3 a (by omega) (by omega)), M1.2.cell (p3 52 (by decide) (by decide))⟩
    obtain ⟨t1, t2, t3⟩ := m1 hw hR MR
    refine ⟨rr, h1, hm hR, ?_, ?_, ?_⟩
    · rw [efc, hst, B_bind, q1, B_bind]
      unfold wu_remembered wu_remembered_11
      rw [if_neg (hrr hw), hco, B_bind, B_bind]
    · rw [efm, m0 _ M1, B_bind, if_pos hw, p1, B_bind, t1, B_bind]
    · have f1 : ∀ a, a ≠ 41 → a ≠ 51 → a ≠ 52 → a ≠ 66 → hm hR a = hc hb a := fun a ha h1 h2 h3 => by rw [t3 a h2, p3 a h3 h1, et a h1, e1 a ha]
      have f2 : ∀ a, a ≠ 5 → a ≠ 6 → a ≠ 8 → a ≠ 10 → a ≠ 12 → a ≠ 13 → a ≠ 41 → a ≠ 51 → a ≠ 52 → a ≠ 66 → hm hR a = hb a := fun a g1 g2 g3 g4 g5 g6 ha h1 h2 h3 => by rw [f1 a ha h1 h2 h3, q3 a g1 g2 g3 g4 g5 g6]
      have f3 : ∀ a, a ≠ 5 → a ≠ 6 → a ≠ 8 → a ≠ 10 → a ≠ 12 → a ≠ 13 → a ≠ 41 → a ≠ 42 → a ≠ 51 → a ≠ 52 → a ≠ 66 → hm hR a = h a := fun a g1 g2 g3 g4 g5 g6 ha h42 h1 h2 h3 => by rw [f2 a g1 g2 g3 g4 g5 g6 ha h1 h2 h3, s1 a h42]
      have f51 : ∀ k, k ≠ 35 → k ≠ 14 → hm hR 51 k = h 51 k := fun k k1 k2 => by rw [t3 51 (by decide), p4 k k1, B_t0_at h1 k2, e1m 51 (by omega), s1 51 (by decide)]
      have f41 : hm hR 41 = h1 41 := by rw [t3 41 (by decide), p3 41 (by decide) (by decide), et 41 (by decide)]
      have X := I.2.2.2.1
      refine ⟨P, T, K, Y, n, Z, ev, (I_h.push (n2 := n) I u ?_ ?_ (W2 hw) ?_ ?_ ?_ ?_ ?_ ?_ ?_ ?_ (fun k hk => f51 k (by omega) (by omega)) ?_ ?_ ?_ ?_ ?_ ?_).up (by omega), r.sm ?_ ?_ ?_ ?_⟩
      · exact q2.cs (fun a h1 h2 => f1 a (by omega) (by omega) (by omega) (by omega))
      · exact ⟨(MR.1.st hZ).cs (fun k hk => by rw [t3 51 (by decide)]) (fun a h1 h2 => t3 a (by omega)), t2⟩
      · unfold I_txt at *
        rw [f3 1 (by decide) (by decide) (by decide) (by decide) (by decide) (by decide) (by decide) (by decide) (by decide) (by decide) (by decide), f3 2 (by decide) (by decide) (by decide) (by decide) (by decide) (by decide) (by decide) (by decide) (by decide) (by decide) (by decide), f3 58 (by decide) (by decide) (by decide) (by decide) (by decide) (by decide) (by decide) (by decide) (by decide) (by decide) (by decide), f51 11 (by decide) (by decide)]
        exact X
      · rw [f3 17 (by decide) (by decide) (by decide) (by decide) (by decide) (by decide) (by decide) (by decide) (by decide) (by decide) (by decide)]
      · rw [f3 18 (by decide) (by decide) (by decide) (by decide) (by decide) (by decide) (by decide) (by decide) (by decide) (by decide) (by decide)]
      · rw [f2 42 (by decide) (by decide) (by decide) (by decide) (by decide) (by decide) (by decide) (by decide) (by decide) (by decide), hB]
      · rw [f41, ← hH1, B_w_same]
      · rw [f41, ← hH1, B_w_at, if_neg (by decide), B_w_same]
      · rw [f41, ← hH1, B_w_at, if_neg (by decide), B_w_at, if_neg (by decide), c41, s1 41 (by decide)]
      · rw [t3 51 (by decide), p2]
      · rw [f3 63 (by decide) (by decide) (by decide) (by decide) (by decide) (by decide) (by decide) (by decide) (by decide) (by decide) (by decide)]
      · rw [f3 79 (by decide) (by decide) (by decide) (by decide) (by decide) (by decide) (by decide) (by decide) (by decide) (by decide) (by decide)]
      · rw [f3 80 (by decide) (by decide) (by decide) (by decide) (by decide) (by decide) (by decide) (by decide) (by decide) (by decide) (by decide)]
      · rw [f3 81 (by decide) (by decide) (by decide) (by decide) (by decide) (by decide) (by decide) (by decide) (by decide) (by decide) (by decide)]
      · intro k hk
        rw [t3 66 (by decide), p5 k hk, et 52 (by decide), e1m 52 (by omega), s1 52 (by decide)]
      · intro j hj k hk
        rw [t3 66 (by decide), p6 j hj k hk, et 66 (by decide), e1m 66 (by omega), s1 66 (by decide)]
      · rw [f3 45 (by decide) (by decide) (by decide) (by decide) (by decide) (by decide) (by decide) (by decide) (by decide) (by decide) (by decide)]
      · rw [f3 46 (by decide) (by decide) (by decide) (by decide) (by decide) (by decide) (by decide) (by decide) (by decide) (by decide) (by decide)]
      · exact f51 13 (by decide) (by decide)
      · rw [f3 59 (by decide) (by decide) (by decide) (by decide) (by decide) (by decide) (by decide) (by decide) (by decide) (by decide) (by decide)]
  · refine ⟨why, hb, B_t0 hb, ?_, ?_, ?_⟩
    · rw [efc, hst, B_bind, c0 hw hb IS.1, B_bind]
      unfold wu_remembered wu_remembered_11
      rw [if_pos (Int32.not_le.mp hw), B_bind]
    · rw [efm, m0 _ MB, B_bind, if_neg hw]
    · exact B_qr IS (r.sm (by rw [s1 45 (by decide)]) (s1 46 (by decide)) (by rw [s1 51 (by decide)]) (s1 59 (by decide)))
theorem B_pc_pos (x : Int32) : ∃ j, j < 64 ∧ B_pc x = nI j := by
  unfold B_pc
  rw [bc_63]
  exact pk_andE _ 6 rfl
theorem B_say (hI : Inv i h) (v0 v1 : Int32) : ∃ r h1 h2, wu_say v0 v1 h = some (r, h1) ∧ mo_say v0 v1 h1 = some (r, h2) ∧ Inv (i + 5) h2 := by
  obtain ⟨P, T, K, Y, n, S, ev, I, r⟩ := hI
  have W := I.2.2.1
  have h6 := W.1
  have h10 := W.2.1
  by_cases hw : 0 ≤ S_nsay S P T v0 v1
  · obtain ⟨p, t, hp, ht, rfl, rfl, e6⟩ := S_nsay_0 W hw
    obtain ⟨j, hj, ej⟩ := B_pc_pos (S_hear S P p t)
    refine B_gos (Z := S_tl S t (S_hear S P p t)) (why := S_nsay S P T (nI p) (nI t)) (rr := B_pc (S_hear S P p t)) (fc := wu_say (nI p) (nI t)) (fm0 := mo_refusesSay (nI p) (nI t)) (fm := mo_say (nI p) (nI t)) (gc := hs_speak (nI p) (nI t)) (gm := mo_goSay (nI p) (nI t)) (hc := fun hh => px_w (px_w hh 12 t (nI 1)) 13 t (S 9 t ||| S_hear S P p t)) (hm := fun hh => px_w (px_w hh 52 (22 + t) (nI 1)) 52 (42 + t) (S 9 t ||| S_hear S P p t)) I r (fun _ => by rw [ej]; exact nI_pos (by omega)) (fun _ => W.tl _) (fun i k _ _ _ _ h8 h9 => ?_) (fun hh => rfl) (fun hh => ?_) (fun q => absurd hw q) (fun _ hh R => ⟨hs_speak_0 hp ht hw R W, R.tl t _, fun a _ _ _ _ h12 h13 => ?_⟩) (fun hh M => mo_refusesSay_s _ _ M W) (fun _ hh M => ⟨mo_goSay_s hp ht e6 M W, ?_, fun a ha => ?_⟩)
    · unfold S_tl
      rw [B_w_cell _ _ _ h9, B_w_cell _ _ _ h8]
    · unfold mo_say
      rw [bc_0]
      rfl
    · try dsimp only
      rw [B_w_cell _ _ _ h13, B_w_cell _ _ _ h12]
    · have A := (M.2.w8 h6 h10 (p := t) (by omega) (nI 1)).w9 h6 h10 (p := t) (by omega) (S 9 t ||| S_hear S P p t)
      exact A
    · try dsimp only
      rw [B_w_cell _ _ _ ha, B_w_cell _ _ _ ha]
  · refine B_gos (Z := S) (why := S_nsay S P T v0 v1) (rr := 0) (fc := wu_say v0 v1) (fm0 := mo_refusesSay v0 v1) (fm := mo_say v0 v1) (gc := hs_speak v0 v1) (gm := mo_goSay v0 v1) (hc := id) (hm := id) I r (fun q => absurd q hw) (fun q => absurd q hw) (fun _ _ _ _ _ _ _ _ => rfl) (fun hh => rfl) (fun hh => ?_) (fun q hh R => hs_speak_n q R W) (fun q => absurd q hw) (fun hh M => mo_refusesSay_s _ _ M W) (fun q => absurd q hw)
    unfold mo_say
    rw [bc_0]
    rfl
end GOSSIP
