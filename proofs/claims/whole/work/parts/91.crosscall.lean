/-! Layer B: cross -/
section CROSSCALL
variable {i : Nat} {h : pH} {P T K Y n U s : Nat} {S : pH} {ev : pE} {ab : Int32}
theorem I_push2 {hs h2 : pH} {Z : pH} {f : Nat → Int32} {n2 : Nat} (R : R_c hs P T K Y S) (W : R_w P T K Y S) (u : I_us hs P T K U s) (E : I_kep hs P T K i) (L : I_rul hs ev) (qa : Q_m f 0 P T S) (R2 : R_c h2 P T K Y Z) (M2 : R_m h2 P T K Y Z) (W2 : R_w P T K Y Z) (X2 : I_txt h2 n2) (e17 : h2 17 4 = hs 17 4) (e18 : h2 18 = hs 18) (e42 : h2 42 = B_sv (52 * s) hs 42) (e412 : h2 41 2 = nI (min (U + 1) 12)) (e413 : h2 41 3 = nI ((s + 1) % 13)) (e411 : h2 41 1 = hs 41 1) (e35 : h2 51 35 = nI (min (U + 1) 12)) (e26 : h2 51 26 = hs 51 26) (e60 : h2 51 60 = hs 51 60) (e63 : h2 63 = hs 63) (e79 : h2 79 = hs 79) (e80 : h2 80 = hs 80) (e81 : h2 81 = hs 81) (ea : ∀ k, k < 52 → h2 66 (52 * min U 11 + k) = f k) (eb : ∀ j, j < min U 11 → ∀ k, k < 52 → h2 66 (52 * j + k) = hs 66 (52 * (j + (U - min U 11)) + k)) : I_h h2 P T K Y i n2 Z ev := by
  have h6 := W.1
  have h10 := W.2.1
  have uS := u.stage h6 h10
  obtain ⟨s1, -, -, s4⟩ := B_sv_inv (h := hs) (b := 52 * s)
  refine ⟨R2, M2, W2, X2, ⟨min (U + 1) 12, (s + 1) % 13, ?_⟩, ?_, ?_⟩
  · exact uS.push h6 h10 (R_w_wm W) (B_sv_Q R W) qa e42 e412 e413 e35 ea (fun j hj k hk => by rw [s1 66 (by decide)]; exact eb j hj k hk)
  · have E2 := E.stage (s := s) u.2.1 h6 h10
    unfold I_kep at *
    rw [s1 41 (by decide), s1 51 (by decide), s1 80 (by decide), s1 81 (by decide), s1 79 (by decide)] at E2
    rw [e411, e42, e60, e79, e80, e81]
    exact E2
  · unfold I_rul at *
    rw [e17, e18, e63, e26]
    exact L
theorem R_a.Q (A : R_a h 52 P T S) : Q_m (h 52) 0 P T S := by
  unfold R_a at A
  unfold Q_m
  simp only [Nat.zero_add]
  exact A
/-- what lasts of the invariant beside the text, over what embark and go wrote -/
theorem I_us.c1 {h1 : pH} (u : I_us h P T K U s) (x : B_fr B_sc1 h h1) : I_us h1 P T K U s := by
  unfold I_us at *
  rw [x 41 2 rfl, x 41 3 rfl, x 51 35 rfl, x.row 42 (fun _ => rfl), x.row 66 (fun _ => rfl)]
  exact u
theorem I_kep.c1 {h1 : pH} (u : I_kep h P T K i) (x : B_fr B_sc1 h h1) : I_kep h1 P T K i := by
  unfold I_kep at *
  rw [x 41 1 rfl, x 51 60 rfl, x.row 80 (fun _ => rfl), x.row 81 (fun _ => rfl), x.row 42 (fun _ => rfl), x.row 79 (fun _ => rfl)]
  exact u
theorem I_rul.c1 {h1 : pH} (u : I_rul h ev) (x : B_fr B_sc1 h h1) : I_rul h1 ev := by
  unfold I_rul at *
  rw [x 17 4 rfl, x 51 26 rfl, x.row 18 (fun _ => rfl), x.row 63 (fun _ => rfl)]
  exact u
theorem C_row.row {h1 : pH} {r : List Nat} (C : C_row h r) (e22 : h1 22 = h 22) (e23 : h1 23 = h 23) : C_row h1 r := by
  unfold C_row at *
  rw [e22, e23]
  exact C
theorem S_fin_k {Z : Nat × Option Nat × pH} {p b : Nat} (hZ : ∀ i k, i ≠ 4 → Z.2.2 i k = S i k) {i k : Nat} (h1 : i ≠ 1) (h4 : i ≠ 4) (h8 : i ≠ 8) (h9 : i ≠ 9) : S_fin S Y K ab p b Z i k = S i k := by
  unfold S_fin S_mv
  rw [if_neg (fun q => h1 q.1)]
  cases hs : Z.2.1 with
  | none => exact hZ i k h4
  | some t =>
    show S_tl Z.2.2 t ab i k = _
    unfold S_tl
    rw [B_w_cell _ _ _ h9, B_w_cell _ _ _ h8]
    exact hZ i k h4
theorem B_cross (hI : Inv i h) (v0 v1 v2 : Int32) : ∃ r h1 h2, wu_cross v0 v1 v2 h = some (r, h1) ∧ mo_cross v0 v1 v2 h1 = some (r, h2) ∧ Inv (i + 5) h2 := by
  obtain ⟨P, T, K, Y, n, S, ev, I, r⟩ := hI
  obtain ⟨R, M, W, X, V, E, L⟩ := id I
  have h6 := W.1
  have h5 := W.2.2.1
  have h10 := W.2.1
  obtain ⟨sg1, sg2, sg3⟩ := X.sg
  obtain ⟨h1, a1, a2, a3, a4⟩ := wu_embark_s (sg := B_sg h) v0 v1 v2 X.1 X.2.1 sg1 R W
  have F1 := a3.mono E_emb_sc1
  have hMC : ∀ hh : pH, (∀ a, 51 ≤ a → hh a = h a) → R_m hh P T K Y S := fun hh f => by
    unfold R_m R_k R_a at *
    rw [f 51 (by omega), f 54 (by omega), f 52 (by omega), f 55 (by omega), f 56 (by omega), f 57 (by omega), f 53 (by omega)]
    exact M
  have F1m : ∀ a, 51 ≤ a → h1 a = h a := fun a ha => funext fun k => B_sc1_m F1 ha
  have hmo : ∀ hh : pH, (∀ a, 51 ≤ a → hh a = h a) → ∃ h3, mo_readLine0 (if S_beg S P v0 v1 v2 = true then S_abd v0 v1 else 0) (if S_beg S P v0 v1 v2 = true then S 1 (B_n v0) else 0) v2 (B_t0 hh) = some (S_emb S P T Y n (B_sg h) v0 v1 v2, h3) ∧ h3 51 11 = 0 ∧ B_fr E_ln (B_t0 hh) h3 ∧ (S_emb S P T Y n (B_sg h) v0 v1 v2 = 0 → M_row h3 (S_rd S T (S_abd v0 v1) (B_sg h) n 0 []).2) := fun hh f => mo_readLine0_s v0 v1 v2 X.1 (by rw [B_t0_at _ (by decide), f _ (by decide)]; exact X.2.2.1) sg2 (fun j hj => by rw [B_t0_row _ (by decide), f _ (by decide)]; exact sg3 j hj) ((hMC hh f).sm (B_t0_fr hh).sm_d) W
  have hmo2 : ∀ hh : pH, (∀ a, 51 ≤ a → hh a = h a) → mo_cross v0 v1 v2 hh = px_bind (mo_readLine0 (if S_beg S P v0 v1 v2 = true then S_abd v0 v1 else 0) (if S_beg S P v0 v1 v2 = true then S 1 (B_n v0) else 0) v2 (B_t0 hh)) fun z1 h2 => if 0 ≤ z1 then px_bind (mo_remember 52 h2) fun _ h4 => px_if (px_ok 0 52 v0) (px_bind (mo_goes 52 (if S_beg S P v0 v1 v2 = true then S_abd v0 v1 else 0) (h4 52 v0.toNatClampNeg) v2 h4) fun _ h6 => px_bind (mo_tellCross 52 v0 h6) fun _ h8 => some (h8 51 31, h8)) else some (z1, h2) := by
    intro hh f
    have M' := (hMC hh f).sm (B_t0_fr hh).sm_d
    unfold mo_cross
    rw [bc_0]
    show px_bind (mo_aboardOf v0 v1 v2 (B_t0 hh)) _ = _
    rw [mo_aboardOf_s _ _ _ M' W, B_bind]
    unfold mo_cross_32
    cases q : S_beg S P v0 v1 v2 with
    | false => simp only [Bool.false_eq_true, if_false, if_true, bc_0]
    | true =>
      obtain ⟨p, b, f2, hp, hb, hf, rfl, rfl, ef, hfb, -⟩ := S_beg_ex W q
      simp only [if_true]
      rw [if_neg (S_abd_ne (by omega) v1), po_52 (by omega), B_ift, nI_clamp (by omega), M'.2.1 p hp, B_n_nI (by omega)]
  by_cases hz : S_emb S P T Y n (B_sg h) v0 v1 v2 = 0
  · have q : S_beg S P v0 v1 v2 = true := by
      cases q : S_beg S P v0 v1 v2 with
      | true => rfl
      | false =>
        unfold S_emb at hz
        rw [q, if_neg (by decide)] at hz
        exact absurd hz (by decide)
    obtain ⟨p, b, f, hp, hb, hf, rfl, rfl, ef, hfb, -⟩ := S_beg_ex W q
    have ep : B_n (nI p) = p := B_n_nI (by omega)
    have eb : B_n (nI b) = b := B_n_nI (by omega)
    have efn : B_n (nI f) = f := B_n_nI (by omega)
    obtain ⟨c1, c2, c3, c4, c5⟩ := a4 hz
    rw [ep, ef] at c3
    rw [ep, eb, ef, efn] at c5
    have hD : S_dist S Y f b ≤ 60 := by
      have l1 := S_yd_le W hf
      have l2 := S_yd_le W (show b < 2 + K by omega)
      unfold S_dist
      omega
    have hok := (S_rd_ok (sg := B_sg h) (ab := S_abd (nI p) v1) W n 0 [] (r_ok_nil T) rfl).1
    have hwd : S_dist S Y f b ≤ S_wds S (S_rd S T (S_abd (nI p) v1) (B_sg h) n 0 []).2 := by
      unfold S_emb at hz
      rw [q, if_pos rfl, ep, eb, ef, efn] at hz
      by_cases w1 : (S_rd S T (S_abd (nI p) v1) (B_sg h) n 0 []).1 = 0
      · rw [if_pos w1] at hz
        by_cases w2 : S_dist S Y f b ≤ S_wds S (S_rd S T (S_abd (nI p) v1) (B_sg h) n 0 []).2
        · exact w2
        · rw [if_neg w2] at hz
          exact absurd hz (by decide)
      · rw [if_neg w1] at hz
        exact absurd hz w1
    generalize hr : (S_rd S T (S_abd (nI p) v1) (B_sg h) n 0 []).2 = rr at *
    have C1 : C_h h1 P T K Y S ev := C_h.c1 ⟨R, L.1⟩ a3
    obtain ⟨U, s, u⟩ : ∃ U s, I_us h P T K U s := V
    obtain ⟨h2, g1, g2, g3, g4, g5, g6, g7⟩ := cr_go_s (ev := ev) hD hf hb hok.1 hok.2.1 W C1 c1 c2 c3 c4 c5
    have Fs : B_fr B_sc1 h h2 := F1.trans (g2.mono (fun a k e => B_sc_1 a k (E_go_sc a k e)))
    have Cs := C1.fr (g2.mono E_go_sc)
    have us := u.c1 Fs
    obtain ⟨s1, -, -, -⟩ := B_sv_inv (h := h2) (b := 52 * s)
    have hst := me_stage_s us
    have RB : R_c (B_sv (52 * s) h2) P T K Y S := Cs.1.cs (fun a h1 h2 => s1 a (by omega))
    have uB := us.stage h6 h10
    have QB := s1
    generalize hB : B_sv (52 * s) h2 = hb4 at *
    have hXs : ∀ t, (S_go ev S (S_dist S Y f b) (S_abd (nI p) v1) rr).2.1 = some t → t < T := foldl_said rr (0, none, S) (fun t q => by cases q) (r_in_mem hok.1)
    have hXl : (S_go ev S (S_dist S Y f b) (S_abd (nI p) v1) rr).1 ≤ S_dist S Y f b := foldl_le rr _ (by show 0 ≤ _; omega)
    have hXW : R_w P T K Y (S_go ev S (S_dist S Y f b) (S_abd (nI p) v1) rr).2.2 := foldl_W rr (0, none, S) (r_in_mem hok.1) W
    have hXZ : ∀ i k, i ≠ 4 → (S_go ev S (S_dist S Y f b) (S_abd (nI p) v1) rr).2.2 i k = S i k := fun i k hi => foldl_ne rr (0, none, S) i k (fun q => hi q.1)
    generalize hXX : S_go ev S (S_dist S Y f b) (S_abd (nI p) v1) rr = XX at *
    obtain ⟨h4, t1, t2, t3⟩ := cr_settle_s (p := f) (b := b) (ab := S_abd (nI p) v1) hf hb hok.1 W RB ((c1.fr g2).row (QB 22 (by decide)) (QB 23 (by decide))) (x := XX) (by rw [QB 22 (by decide), g2 22 6 rfl, c2]) (by rw [QB 22 (by decide), g4]) hXs (by rw [QB 22 (by decide), g5]) hok.2.1 (fun j hj => by rw [QB 24 (by decide)]; exact g6 j hj) (by rw [QB 24 (by decide)]; exact g7)
    obtain ⟨u1, u2, u3, u4, u5, u6⟩ := uB
    have hco := me_commit_s (h := h4) u1 u2 (by rw [t3 41 2 rfl]; exact u3) (by rw [t3 41 3 rfl]; exact u4)
    generalize hH5 : px_w (px_w h4 41 3 (nI ((s + 1) % 13))) 41 2 (nI (min (U + 1) 12)) = h5' at *
    have e5 : ∀ a, a ≠ 41 → h5' a = h4 a := fun a ha => by rw [← hH5, B_w_cell _ _ _ ha, B_w_cell _ _ _ ha]
    have e22 : h5' 22 = h2 22 := by rw [e5 22 (by decide), t3.row 22 (fun _ => rfl), QB 22 (by decide)]
    obtain ⟨h6c, q1, q2, q3⟩ := tl_tell_3 h5' (h5' 22 12) (h5' 22 11) (h5' 22 10)
    -- the cells that the class left, against those it began with
    have f42 : ∀ a, 42 ≤ a → a ≠ 42 → a ≠ 45 → a ≠ 46 → h6c a = h2 a := fun a ha h1 h2' h3 => by
      rw [q3.row a (fun k => by
        unfold B_frw
        split
        · exact absurd rfl h2'
        · exact absurd rfl h3
        · rfl), e5 a (by omega), t3.row a (fun k => by
        unfold E_set
        have h1' : a ≠ 5 := by omega
        have h2' : a ≠ 8 := by omega
        have h3' : a ≠ 12 := by omega
        have h4' : a ≠ 13 := by omega
        simp [h1', h2', h3', h4']), QB a h1]
    have f51 : ∀ a, 51 ≤ a → h6c a = h a := fun a ha => by
      rw [f42 a (by omega) (by omega) (by omega) (by omega)]
      exact funext fun k => B_sc1_m Fs ha
    have MC : R_m (B_t0 h6c) P T K Y S := by
      refine R_m.sm ?_ (B_t0_fr h6c).sm_d
      unfold R_m R_k R_a at *
      rw [f51 51 (by omega), f51 54 (by omega), f51 52 (by omega), f51 55 (by omega), f51 56 (by omega), f51 57 (by omega), f51 53 (by omega)]
      exact M
    obtain ⟨h7, m1, m2, m3, m4⟩ := hmo h6c f51
    have Mr := m4 hz
    have M7 := MC.ln m3
    have e35 : h7 51 35 = nI U := by rw [m3 51 35 rfl, B_t0_at _ (by decide), f51 51 (by omega)]; exact u.2.2.2.2.1
    obtain ⟨hR, p1, p2, p3, p4, p5, p6⟩ := mo_remember_s (h := h7) (a := 52) (U := U) rfl rfl (by decide) (by decide) u1 e35
    have MR : R_m hR P T K Y S := ⟨M7.1.cs (fun k hk => p4 k (by omega)) (fun a h1 h2 => p3 a (by omega) (by omega)), M7.2.cell (p3 52 (by decide) (by decide))⟩
    have ML : M_h hR P T K Y S ev := ⟨MR.1, by
      have := L.2
      rw [p4 26 (by decide), p3 63 (by decide) (by decide), m3 51 26 rfl, m3.row 63 (fun _ => rfl), B_t0_at _ (by decide), B_t0_row _ (by decide), f51 51 (by omega), f51 63 (by omega)]
      exact this⟩
    have Mrr : M_row hR rr := by
      unfold M_row at *
      rw [p4 30 (by decide), p3 65 (by decide) (by decide)]
      exact Mr
    obtain ⟨h8, n1, n2⟩ := mo_goes_s (ab := S_abd (nI p) v1) (Or.inl rfl) hf hb W hok.1 hok.2.1 rfl hwd ML MR.2 Mrr
    rw [hXX] at n1 n2
    obtain ⟨n3, n4, n5, n6⟩ := n2
    obtain ⟨h9, o1, o2, o3⟩ := mo_tellCross_s (p := p) (Or.inl rfl) hp h6 n3 n4 n5
    have hab := S_abd_bit (show p < 32 by omega) v1
    rw [S_fin_at hab] at o2
    have e52 : hR 52 p = nI f := by rw [MR.2.1 p hp, ef]
    refine ⟨nI XX.1, h6c, h9, ?_, ?_, ?_⟩
    · unfold wu_cross wu_tellCrossing
      rw [a1, B_bind, hz, if_pos (by decide), g1, B_bind, hst, B_bind, t1, B_bind, hco, B_bind, q1, B_bind, B_bind, q3 22 10 rfl, e22, g3]
    · rw [hmo2 h6c f51, m1, B_bind, hz, if_pos (by decide), p1, B_bind, po_52 (by omega), B_ift, nI_clamp (by omega), e52, q, if_pos rfl, n1, B_bind, o1, B_bind, o3 51 31 rfl, n4]
    · -- the reference's cells
      have r9 : ∀ a, a ≠ 51 → a ≠ 52 → a ≠ 59 → a ≠ 64 → a ≠ 65 → a ≠ 66 → h9 a = h6c a := fun a h1 h2 h3 h4 h5 h6 => by
        rw [o3.row a (fun k => by
          unfold B_frm
          split
          · exact absurd rfl h1
          · exact absurd rfl h3
          · rfl), n6.row a (fun k => by
          unfold E_g
          split
          · exact absurd rfl h1
          · exact absurd rfl h4
          · exact beq_ne h2), p3 a h6 h1, m3.row a (fun k => by
          unfold E_ln
          split
          · exact absurd rfl h1
          · exact absurd rfl h5
          · rfl), B_t0_row _ h1]
      have r66 : ∀ k, h9 66 k = hR 66 k := fun k => by rw [o3 66 k rfl, n6 66 k rfl]
      have r51 : ∀ k, k = 1 ∨ k = 2 ∨ k = 4 ∨ k = 6 ∨ k = 26 ∨ k = 60 → h9 51 k = h 51 k := fun k hk => by
        rcases hk with rfl | rfl | rfl | rfl | rfl | rfl
        · rw [o3 51 1 rfl, n6 51 1 rfl, p4 1 (by decide), m3 51 1 rfl, B_t0_at _ (by decide), f51 51 (by omega)]
        · rw [o3 51 2 rfl, n6 51 2 rfl, p4 2 (by decide), m3 51 2 rfl, B_t0_at _ (by decide), f51 51 (by omega)]
        · rw [o3 51 4 rfl, n6 51 4 rfl, p4 4 (by decide), m3 51 4 rfl, B_t0_at _ (by decide), f51 51 (by omega)]
        · rw [o3 51 6 rfl, n6 51 6 rfl, p4 6 (by decide), m3 51 6 rfl, B_t0_at _ (by decide), f51 51 (by omega)]
        · rw [o3 51 26 rfl, n6 51 26 rfl, p4 26 (by decide), m3 51 26 rfl, B_t0_at _ (by decide), f51 51 (by omega)]
        · rw [o3 51 60 rfl, n6 51 60 rfl, p4 60 (by decide), m3 51 60 rfl, B_t0_at _ (by decide), f51 51 (by omega)]
      have c41 : h9 41 = h5' 41 := by rw [r9 41 (by decide) (by decide) (by decide) (by decide) (by decide) (by decide), q3.row 41 (fun _ => rfl)]
      have cc : ∀ a, a < 41 → h9 a = h4 a := fun a ha => by rw [r9 a (by omega) (by omega) (by omega) (by omega) (by omega) (by omega), q3.row a (fun k => by
          unfold B_frw
          split
          · omega
          · omega
          · rfl), e5 a (by omega)]
      refine ⟨P, T, K, Y, 0, S_fin S Y K (S_abd (nI p) v1) f b XX, ev, (I_push2 (hs := h2) (f := h7 52) Cs.1 W us (E.c1 Fs) (L.c1 Fs) M7.2.Q ?_ ?_ (S_fin_W hf hb hXW) ?_ ?_ ?_ ?_ ?_ ?_ ?_ ?_ ?_ ?_ ?_ ?_ ?_ ?_ ?_ ?_).up (by omega), 3, by omega, ?_, ?_, ?_⟩
      · exact t2.cs (fun a h1 h2 => cc a (by omega))
      · refine ⟨?_, n3.cell (o3.row 52 (fun _ => rfl))⟩
        refine (M.1.st (fun i k h1 h2 h4 h6 h8 h9 => ?_)).cs (fun k hk => r51 k (by omega)) (fun a h1 h2 => by rw [r9 a (by omega) (by omega) (by omega) (by omega) (by omega) (by omega), f51 a (by omega)])
        exact S_fin_k hXZ h1 h4 h8 h9
      · refine ⟨by omega, ?_, ?_, fun k hk => absurd hk (by omega)⟩
        · rw [cc 1 (by omega), t3 1 1 rfl, QB 1 (by decide), g2 1 1 rfl, a2]
          rfl
        · rw [o3 51 11 rfl, n6 51 11 rfl, p4 11 (by decide), m2]
          rfl
      · rw [cc 17 (by omega), t3 17 4 rfl, QB 17 (by decide)]
      · rw [cc 18 (by omega), t3.row 18 (fun _ => rfl), QB 18 (by decide)]
      · rw [r9 42 (by decide) (by decide) (by decide) (by decide) (by decide) (by decide), q3.row 42 (fun _ => rfl), e5 42 (by decide), t3.row 42 (fun _ => rfl), hB]
      · rw [c41, ← hH5, B_w_same]
      · rw [c41, ← hH5, B_w_at, if_neg (by decide), B_w_same]
      · rw [c41, ← hH5, B_w_at, if_neg (by decide), B_w_at, if_neg (by decide), t3 41 1 rfl, QB 41 (by decide)]
      · rw [o3 51 35 rfl, n6 51 35 rfl, p2]
      · rw [r51 26 (by omega)]
        exact (B_sc1_m Fs (by decide)).symm
      · rw [r51 60 (by omega)]
        exact (B_sc1_m Fs (by decide)).symm
      · rw [r9 63 (by decide) (by decide) (by decide) (by decide) (by decide) (by decide), f42 63 (by decide) (by decide) (by decide) (by decide)]
      · rw [r9 79 (by decide) (by decide) (by decide) (by decide) (by decide) (by decide), f42 79 (by decide) (by decide) (by decide) (by decide)]
      · rw [r9 80 (by decide) (by decide) (by decide) (by decide) (by decide) (by decide), f42 80 (by decide) (by decide) (by decide) (by decide)]
      · rw [r9 81 (by decide) (by decide) (by decide) (by decide) (by decide) (by decide), f42 81 (by decide) (by decide) (by decide) (by decide)]
      · intro k hk
        rw [r66, p5 k hk]
      · intro j hj k hk
        rw [r66, p6 j hj k hk, m3 66 _ rfl, B_t0_row _ (by decide), f42 66 (by decide) (by decide) (by decide) (by decide)]
      · rw [r9 45 (by decide) (by decide) (by decide) (by decide) (by decide) (by decide)]
        exact q2.1
      · exact o2.1
      · intro k hk
        rw [r9 46 (by decide) (by decide) (by decide) (by decide) (by decide) (by decide), q2.2 k hk, o2.2 k hk, e22, g3, g4, g5]
  · have hneg : ¬ 0 ≤ S_emb S P T Y n (B_sg h) v0 v1 v2 := S_emb_neg W hz
    obtain ⟨h4, m1, m2, m3, m4⟩ := hmo h1 F1m
    refine ⟨S_emb S P T Y n (B_sg h) v0 v1 v2, h1, h4, ?_, ?_, ?_⟩
    · unfold wu_cross
      rw [a1, B_bind, if_neg hneg]
    · rw [hmo2 h1 F1m, m1, B_bind, if_neg hneg]
    · exact B_rd0 I r F1 (((B_t0_fr h1).mono B_sd_1).trans (m3.mono E_ln_sd1)) a2 m2 (a3 45 1 rfl) (a3.row 46 (fun _ => rfl)) (by rw [m3 51 13 rfl, B_t0_at _ (by decide)]) (by rw [m3.row 59 (fun _ => rfl), B_t0_row _ (by decide)])
end CROSSCALL
