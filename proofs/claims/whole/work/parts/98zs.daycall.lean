/-! Layer B: day, the call -/
section DAYCALL
variable {i n : Nat} {h : pH} {P T K Y : Nat} {S : pH} {ev : pE} {sg : Nat → Nat}
def E_T : Nat → Nat → Bool := fun a k => match a with
  | 1 => [1, 2, 3, 4].contains k
  | 41 => [2, 3].contains k
  | 45 => Nat.beq k 1
  | 46 => true
  | 51 => [11, 13, 14, 15, 16, 17, 18, 19, 27, 30, 31, 32, 33, 35, 39].contains k
  | 52 => true
  | 59 => true
  | 64 => true
  | 65 => true
  | 66 => true
  | 67 => true
  | 69 => true
  | a => E_dd a k
theorem E_dd_T : ∀ a k, E_dd a k = true → E_T a k = true := fun a k e => by
  unfold E_T
  split
  · have : k = 2 ∨ k = 3 ∨ k = 4 := by simpa [E_dd] using e
    rcases this with rfl | rfl | rfl <;> rfl
  all_goals (first | rfl | exact e | exact absurd e (by unfold E_dd E_dc E_k; simp))
theorem E_act_T : ∀ a k, E_act a k = true → E_T a k = true := fun a k e => E_dd_T a k (E_act_dd a k e)
theorem B_frw_T : ∀ a k, B_frw a k = true → E_T a k = true := fun a k e => by
  unfold B_frw at e
  split at e
  · exact e
  · rfl
  · cases e
theorem B_frm_T : ∀ a k, B_frm a k = true → E_T a k = true := fun a k e => by
  unfold B_frm at e
  split at e
  · have := Nat.eq_of_beq_eq_true e
    subst this
    rfl
  · rfl
  · cases e
theorem E_md_T : ∀ a k, E_md a k = true → E_T a k = true := fun a k e => by
  unfold E_md at e
  split at e
  · have : k = 18 ∨ k = 19 := by simpa using e
    rcases this with rfl | rfl <;> rfl
  · rfl
  · cases e
theorem E_dm_T : ∀ a k, E_dm a k = true → E_T a k = true := fun a k e => by
  unfold E_dm at e
  split at e
  · have : k = 15 ∨ k = 16 ∨ k = 17 ∨ k = 18 ∨ k = 19 ∨ k = 27 ∨ k = 30 ∨ k = 31 ∨ k = 32 ∨ k = 33 ∨ k = 39 := by simpa using e
    rcases this with rfl | rfl | rfl | rfl | rfl | rfl | rfl | rfl | rfl | rfl | rfl <;> rfl
  · rfl
  · rfl
  · rfl
  · cases e
theorem M_bg_T {most : Nat} : B_fr E_T h (M_bg h n most) := by
  unfold M_bg B_t0
  exact (((((((B_fr.refl _ h).w rfl).w rfl).w rfl).w rfl).w rfl).w rfl).w rfl
theorem E_act_sc1 : ∀ a k, E_act a k = true → B_sc1 a k = true := fun a k e => by
  unfold E_act at e
  split at e
  · have : k = 2 ∨ k = 3 ∨ k = 4 := by simpa using e
    rcases this with rfl | rfl | rfl <;> rfl
  · rfl
  · rfl
  · cases e
theorem E_md_sd1 : ∀ a k, E_md a k = true → B_sd1 a k = true := fun a k e => by
  unfold E_md at e
  split at e
  · have : k = 18 ∨ k = 19 := by simpa using e
    rcases this with rfl | rfl <;> rfl
  · rfl
  · cases e
theorem mo_day_157_s {N dn c : Nat} (hN : N ≤ 80) (e39 : h 51 39 = nI c) : ∃ h', mo_day_157 (nI N) (nI dn) h = some (nI dn, h') ∧ (dn ≤ N → B_rm h' [nI (if dn < N then 1 else 0), nI c]) ∧ B_fr B_frm h h' := by
  have hz : mo_day_157 (nI N) (nI dn) h = mo_day_173 (nI dn) (if nI N ≤ nI dn then 0 else nI 1) (px_w h 51 13 0) := by
    unfold mo_day_157
    rw [bc_0, bc_1]
    split <;> rfl
  obtain ⟨h1, a1, a2, a3⟩ := mo_tell_s (if nI N ≤ nI dn then 0 else nI 1) (B_rm_nil h) (by decide)
  obtain ⟨h2, b1, b2, b3⟩ := mo_tell_s (h1 51 39) a2 (by simp)
  refine ⟨h2, ?_, fun hle => ?_, (((B_fr.refl _ h).w rfl).trans a3).trans b3⟩
  · rw [hz]
    unfold mo_day_173
    rw [a1, B_bind, b1, B_bind]
  · have e : h1 51 39 = nI c := by rw [a3 51 39 rfl, B_w_at, if_neg (by decide), e39]
    rw [e] at b2
    have e2 : (if nI N ≤ nI dn then (0 : Int32) else nI 1) = nI (if dn < N then 1 else 0) := by
      by_cases w : dn < N
      · rw [if_pos w, if_neg (nI_ge w (by omega))]
      · rw [if_neg w, if_pos (nI_le (by omega) (by omega)), nI_0]
    rw [e2] at b2
    exact b2
theorem B_day (hI : Inv i h) : ∃ r h1 h2, wu_day h = some (r, h1) ∧ mo_day h1 = some (r, h2) ∧ Inv (i + 5) h2 := by
  obtain ⟨P, T, K, Y, n, S, ev, I, r⟩ := hI
  obtain ⟨R, M, W, X, V, E, L⟩ := id I
  have h6 := W.1
  have h10 := W.2.1
  obtain ⟨sg1, sg2, sg3⟩ := X.sg
  have hn := X.1
  have ecut : ∀ hh : pH, hh 1 1 = nI n → tx_cut (px_c 0) hh = some (nI 1, px_w hh 1 1 0) := fun hh e => by
    unfold tx_cut
    rw [bc_0, if_neg (by decide), e, if_pos (nI_pos' (by omega)), bc_1, B_bz1]
  have hmo : ∀ hh : pH, (∀ a, 51 ≤ a → hh a = h a) → mo_day hh = mo_day_24 (M_bg hh n 60) := fun hh e => by
    have := mo_begin_s (h := hh) (n := n) (most := 60) (by rw [e 51 (by omega)]; exact X.2.2.1)
    unfold mo_day
    rw [bc_60, bc_0]
    show px_bind (mo_begin 58 ((B_t0 hh) 51 11) (nI 60) (B_t0 hh)) _ = _
    rw [bc_0] at this
    cases hb : mo_begin 58 ((B_t0 hh) 51 11) (nI 60) (B_t0 hh) with
    | none =>
      rw [hb] at this
      cases this
    | some x =>
      rw [hb] at this
      have h2 : px_w x.2 51 11 0 = M_bg hh n 60 := congrArg Prod.snd (Option.some.inj this)
      show mo_day_24 (px_w x.2 51 11 0) = _
      rw [h2]
  have hb11 : ∀ hh : pH, (M_bg hh n 60) 51 11 = 0 := fun hh => B_w_same _ _ _ _
  have hbk : ∀ (hh : pH) k, k ≠ 11 → k ≠ 14 → k ≠ 15 → k ≠ 16 → k ≠ 17 → k ≠ 18 → k ≠ 19 → (M_bg hh n 60) 51 k = hh 51 k := fun hh k x1 x2 x3 x4 x5 x6 x7 => by
    unfold M_bg
    rw [B_w_at, if_neg x1, B_w_at, if_neg x7, B_w_at, if_neg x6, B_w_at, if_neg x5, B_w_at, if_neg x4, B_w_at, if_neg x3, B_t0_at _ x2]
  have hb16 : ∀ hh : pH, (M_bg hh n 60) 51 16 = nI n := fun hh => by
    unfold M_bg
    rw [B_w_at, if_neg (by decide), B_w_at, if_neg (by decide), B_w_at, if_neg (by decide), B_w_at, if_neg (by decide), B_w_same]
  have h24 : ∀ hh : pH, mo_day_24 (M_bg hh n 60) = mo_day_39 px_F (nI 0) (nI (if n = 0 then 0 else 1)) (M_bg hh n 60) := fun hh => by
    unfold mo_day_24 mo_day_38
    rw [hb16, bc_0, bc_1]
    by_cases q : n = 0
    · rw [if_pos (show nI n ≤ 0 by rw [q]; decide), if_pos q, nI_0]
    · rw [if_neg (fun w => by
        rw [bn_le0 (by omega)] at w
        exact q w), if_neg q, nI_0]
  have hMR := fun (hh : pH) (e : ∀ a, 51 ≤ a → hh a = h a) => M_bg_rd (h := hh) (n := n) (sg := B_sg h) (most := 60) (fun j hj => by rw [e 58 (by decide)]; exact sg3 j hj)
  have hmn : min n 60 ≤ n := Nat.min_le_left _ _
  have hm60 : min n 60 ≤ 60 := Nat.min_le_right _ _
  -- the good way, for a list of acts
  have hgood : ∀ (l : List dA) (hA : pH), (l = [] ∨ (0 ≤ min n 60 ∧ S_dl (B_sg h) n (min n 60) 61 0 = (l, none))) → (∀ a, a ∈ l → d_ok a) → 3 * l.length ≤ 60 → ac_check h = some (nI l.length, hA) → B_fr E_act h hA → (∀ hh, (∀ a, 51 ≤ a → hh a = h a) → ∃ hB k', mo_day hh = mo_day_90 (nI l.length) hB ∧ M_rd hB n 60 k' (B_sg h) none ∧ (∀ i, i < l.length → M_act hB (11 * (0 + i)) (l.getD i (0, 0, 0, 0, []))) ∧ B_fr E_md (M_bg hh n 60) hB) → ∃ r h1 h2, wu_day h = some (r, h1) ∧ mo_day h1 = some (r, h2) ∧ Inv (i + 5) h2 := by
    intro l hA hl hok hlen hck FA hM
    obtain ⟨U, s, u⟩ : ∃ U s, I_us h P T K U s := V
    have uA : I_us hA P T K U s := u.c1 (FA.mono E_act_sc1)
    have EA : I_kep hA P T K i := E.c1 (FA.mono E_act_sc1)
    have LA : I_rul hA ev := L.c1 (FA.mono E_act_sc1)
    have RA : R_c hA P T K Y S := R.act FA
    have hst := me_stage_s uA
    obtain ⟨s1, -, -, -⟩ := B_sv_inv (h := hA) (b := 52 * s)
    have uS := uA.stage h6 h10
    have KS := EA.stage (s := s) u.2.1 h6 h10
    generalize hSv : B_sv (52 * s) hA = hS at *
    generalize hH6 : px_w (px_w (px_w hS 1 2 0) 1 3 (nI (min n 60))) 1 4 (-1) = h6c
    have F6 : B_fr E_dd hS h6c := by
      rw [← hH6]
      exact (((B_fr.refl _ hS).w rfl).w rfl).w rfl
    have e11S : hS 1 1 = nI n := by rw [s1 1 (by decide), FA 1 1 rfl, X.2.1]
    have Cr6 : C_rd h6c n (min n 60) 0 (B_sg h) := by
      refine ⟨by rw [F6 1 1 rfl, e11S], ?_, ?_, fun j hj => by rw [F6.row 2 (fun _ => rfl), s1 2 (by decide), FA.row 2 (fun _ => rfl)]; exact sg1 j hj⟩
      · rw [← hH6, B_w_at, if_neg (by decide), B_w_at, if_neg (by decide), B_w_same, nI_0]
      · rw [← hH6, B_w_at, if_neg (by decide), B_w_same]
    have RS : R_c hS P T K Y S := RA.cs (fun a h1 h2 => s1 a (by omega))
    have R6 : R_c h6c P T K Y S := RS.cs (fun a h1 h2 => by rw [← hH6, B_w_cell _ _ _ (by omega), B_w_cell _ _ _ (by omega), B_w_cell _ _ _ (by omega)])
    have C6 : C_h h6c P T K Y S ev := ⟨R6, by
      rw [F6 17 4 rfl, F6.row 18 (fun _ => rfl), s1 17 (by decide), s1 18 (by decide)]
      exact LA.1⟩
    obtain ⟨h7, a1, a2, a3⟩ := wu_day_57_s (ev := ev) (sg := B_sg h) hmn hn hm60 sg2 l 61 0 0 0 px_F S h6c hl C6 W Cr6 (by omega) (by omega) (px_F_lt (by omega))
    have F7 : B_fr E_dd hS h7 := F6.trans a3
    obtain ⟨w1, w2, w3, w4, w5, w6⟩ := S_de_ok (ev := ev) (Y := Y) (K := K) l S hok W
    rw [Nat.zero_add, Nat.zero_add, Nat.zero_add] at a1
    generalize hde : S_de ev P T K Y l S = X0 at *
    have hcl : wu_day h = px_bind (wu_day_164 (nI X0.1) (nI X0.2.1) (nI X0.2.2.1) h7) fun z h => some (z, h) := by
      unfold wu_day tx_open
      rw [hck, B_bind, if_pos (nI_pos' (by omega)), hst, B_bind, bc_60, bc_0, bc_m1]
      dsimp only
      rw [B_bind, B_w_at, if_neg (by decide), e11S, px_min_nI (by omega) (by omega), hH6]
      have := a1
      rw [nI_0] at this
      rw [this]
      cases wu_day_164 (nI X0.1) (nI X0.2.1) (nI X0.2.2.1) h7 <;> rfl
    -- behind the commit, or without one
    have hend : ∀ hc : pH, hc 1 1 = nI n → ∃ h9, wu_day_175 (nI X0.1) (nI X0.2.1) (nI X0.2.2.1) hc = some (nI X0.1, h9) ∧ h9 1 1 = 0 ∧ B_rc h9 [nI X0.2.1, nI X0.2.2.1] ∧ B_fr E_T hc h9 ∧ (∀ a, 51 ≤ a → h9 a = hc a) ∧ (∀ a, a < 45 → a ≠ 1 → h9 a = hc a) := fun hc e => by
      obtain ⟨h9, t1, t2, t3⟩ := tl_tell_2 (px_w hc 1 1 0) (nI X0.2.1) (nI X0.2.2.1)
      refine ⟨h9, ?_, by rw [t3 1 1 rfl, B_w_same], t2, B_fr.trans ((B_fr.refl _ hc).w rfl) (t3.mono B_frw_T), fun a ha => ?_, fun a ha h1 => ?_⟩
      · unfold wu_day_175
        rw [ecut hc e, B_bind, t1, B_bind]
      · rw [t3.row a (fun k => by
          unfold B_frw
          split
          all_goals (first | rfl | (exfalso; omega))), B_w_cell _ _ _ (by omega)]
      · rw [t3.row a (fun k => by
          unfold B_frw
          split
          all_goals (first | rfl | (exfalso; omega))), B_w_cell _ _ _ h1]
    have f7 : ∀ a, 51 ≤ a → h7 a = h a := fun a ha => by
      rw [F7.row a (fun k => by
        unfold E_dd
        split
        · exfalso; omega
        · exfalso; omega
        · exfalso; omega
        · unfold E_dc
          split
          all_goals (first | (exfalso; omega) | skip)
          unfold E_k
          split
          all_goals (first | rfl | (exfalso; omega))), s1 a (by omega), FA.row a (fun k => by
        unfold E_act
        split
        all_goals (first | rfl | (exfalso; omega)))]
    -- the other side's acts, from whatever one side left
    have hdo : ∀ hh, (∀ a, 51 ≤ a → hh a = h a) → ∃ hD f, mo_day hh = mo_day_145 (nI l.length) (nI X0.1) hD ∧ R_m hD P T K Y X0.2.2.2 ∧ hD 51 39 = nI X0.2.2.1 ∧ B_fr E_T hh hD ∧ hD 51 11 = 0 ∧ hD 51 35 = h 51 35 ∧ (∀ k, hD 66 k = h 66 k) ∧ (∀ k, k < 52 → hD 67 k = f k) ∧ Q_m f 0 P T S ∧ (∀ a, a < 51 → hD a = hh a) ∧ hD 51 13 = h 51 13 := fun hh e => by
      obtain ⟨hB, k', b1, b2, b3, b4⟩ := hM hh e
      have MB : R_m hB P T K Y S := by
        have f52 : ∀ a, 52 ≤ a → a ≠ 69 → hB a = h a := fun a ha h69 => by
          rw [b4.row a (fun k => by
            unfold E_md
            split
            · exfalso; omega
            · exact absurd rfl h69
            · rfl), M_bg_row _ _ _ (by omega), e a (by omega)]
        have g : ∀ k, k = 1 ∨ k = 2 ∨ k = 4 ∨ k = 6 → hB 51 k = h 51 k := fun k hk => by
          rcases hk with rfl | rfl | rfl | rfl
          · rw [b4 51 1 rfl, hbk _ 1 (by decide) (by decide) (by decide) (by decide) (by decide) (by decide) (by decide), e 51 (by omega)]
          · rw [b4 51 2 rfl, hbk _ 2 (by decide) (by decide) (by decide) (by decide) (by decide) (by decide) (by decide), e 51 (by omega)]
          · rw [b4 51 4 rfl, hbk _ 4 (by decide) (by decide) (by decide) (by decide) (by decide) (by decide) (by decide), e 51 (by omega)]
          · rw [b4 51 6 rfl, hbk _ 6 (by decide) (by decide) (by decide) (by decide) (by decide) (by decide) (by decide), e 51 (by omega)]
        exact ⟨M.1.cs g (fun a h1 h2 => f52 a (by omega) (by omega)), M.2.cell (f52 52 (by omega) (by omega))⟩
      have hlay := mo_lay_s (h := hB) (a0 := 52) (a1 := 67) (off := 0) rfl rfl rfl (by decide) (by decide) (by decide)
      generalize hHC : px_w (B_cp hB (hB 52) 67 0) 51 39 0 = hC
      have cC : ∀ a, a ≠ 51 → a ≠ 67 → hC a = hB a := fun a h1 h2 => by rw [← hHC, B_w_cell _ _ _ h1, B_cp_ne h2]
      have c51 : ∀ k, k ≠ 39 → hC 51 k = hB 51 k := fun k hk => by rw [← hHC, B_w_at, if_neg hk, B_cp_ne (by decide)]
      have MC : R_m hC P T K Y S := ⟨MB.1.cs (fun k hk => c51 k (by omega)) (fun a h1 h2 => cC a (by omega) (by omega)), MB.2.cell (cC 52 (by decide) (by decide))⟩
      have FC : B_fr E_T hB hC := fun a k ek => by
        by_cases w1 : a = 51
        · subst w1
          refine c51 k (fun w => ?_)
          subst w
          cases ek
        · by_cases w2 : a = 67
          · subst w2
            cases ek
          · rw [cC a w1 w2]
      have EC : E_m (hC 51 26) (hC 63) ev := by
        rw [c51 26 (by decide), cC 63 (by decide) (by decide), b4 51 26 rfl, b4.row 63 (fun _ => rfl), hbk _ 26 (by decide) (by decide) (by decide) (by decide) (by decide) (by decide) (by decide), M_bg_row _ _ _ (by decide), e 51 (by omega), e 63 (by omega)]
        exact L.2
      obtain ⟨hD, x1, x2, x3, x4⟩ := mo_day_123_s (ev := ev) (K := K) (Y := Y) l 0 0 px_F S hC hok MC EC W (fun i hi => by
        have := b3 i hi
        unfold M_act at *
        rw [cC 69 (by decide) (by decide)]
        exact this) (by rw [← hHC, B_w_same, nI_0]) (by omega) (px_F_lt (by omega))
      rw [hde] at x1 x2 x3
      rw [Nat.zero_add, Nat.zero_add] at x1
      rw [Nat.zero_add] at x3
      have hz : mo_day hh = mo_day_145 (nI l.length) (nI X0.1) hD := by
        rw [b1]
        unfold mo_day_90
        rw [mo_fine_0 b2, B_bind, if_neg (by decide), bc_0, ← nI_0, hlay, B_bind, nI_0, hHC, ← nI_0]
        exact x1
      have qa : Q_m (hB 52) 0 P T S := R_a.Q MB.2
      refine ⟨hD, hB 52, hz, x2, x3, ((M_bg_T.trans (b4.mono E_md_T)).trans FC).trans (x4.mono E_dm_T), ?_, ?_, fun k => ?_, fun k hk => ?_, qa, fun a ha => ?_, ?_⟩
      · rw [x4 51 11 rfl, c51 11 (by decide), b4 51 11 rfl, hb11]
      · rw [x4 51 35 rfl, c51 35 (by decide), b4 51 35 rfl, hbk _ 35 (by decide) (by decide) (by decide) (by decide) (by decide) (by decide) (by decide), e 51 (by omega)]
      · rw [x4 66 k rfl, cC 66 (by decide) (by decide), b4 66 k rfl, M_bg_row _ _ _ (by decide), e 66 (by omega)]
      · rw [x4 67 k rfl, ← hHC, B_w_cell _ _ _ (by decide)]
        unfold B_cp
        rw [if_pos ⟨rfl, Nat.zero_le _, by omega⟩, Nat.sub_zero]
      · rw [x4.row a (fun k => by
          unfold E_dm
          split
          all_goals (first | rfl | (exfalso; omega))), cC a (by omega) (by omega), b4.row a (fun k => by
          unfold E_md
          split
          all_goals (first | rfl | (exfalso; omega))), M_bg_row _ _ _ (by omega)]
      · rw [x4 51 13 rfl, c51 13 (by decide), b4 51 13 rfl, hbk _ 13 (by decide) (by decide) (by decide) (by decide) (by decide) (by decide) (by decide), e 51 (by omega)]
    by_cases hd0 : X0.1 = 0
    · -- nothing was done
      have eZ := w6 hd0
      obtain ⟨h9, t1, t2, t3, t4, t5, t6⟩ := hend h7 (by rw [F7 1 1 rfl, e11S])
      have f51 : ∀ a, 51 ≤ a → h9 a = h a := fun a ha => by rw [t5 a ha, f7 a ha]
      obtain ⟨hD, f, y1, y2, y3, y4, y5, y6, y7, y8, y9, y10, y11⟩ := hdo h9 f51
      obtain ⟨hE, z1, z2, z3⟩ := mo_day_157_s (N := l.length) (dn := X0.1) (by omega) y3
      have F : B_fr E_T hS hE := (((F7.mono E_dd_T).trans t4).trans y4).trans (z3.mono B_frm_T)
      have cc : ∀ a, a < 51 → hE a = h9 a := fun a ha => by
        rw [z3.row a (fun k => by
          unfold B_frm
          split
          all_goals (first | rfl | (exfalso; omega))), y10 a ha]
      have c41 : hE 41 = hS 41 := by rw [cc 41 (by decide), t6 41 (by decide) (by decide), F7.row 41 (fun _ => rfl)]
      have e35 : hE 51 35 = hS 51 35 := by rw [z3 51 35 rfl, y6, s1 51 (by decide), FA 51 35 rfl]
      have e66 : hE 66 = hS 66 := funext fun k => by rw [z3 66 k rfl, y7 k, s1 66 (by decide), FA 66 k rfl]
      have e42 : hE 42 = hS 42 := F.row 42 (fun _ => rfl)
      refine ⟨nI X0.1, h9, hE, ?_, ?_, P, T, K, Y, 0, S, ev, ⟨?_, ?_, W, ⟨by omega, ?_, ?_, fun k hk => absurd hk (by omega)⟩, ⟨U, s, ?_⟩, I_kep.up ?_ (Nat.le_add_right i 5), ?_⟩, 2, by omega, ?_, ?_, fun k hk => ?_⟩
      · rw [hcl]
        unfold wu_day_164
        rw [if_pos (by rw [hd0]; decide), t1, B_bind]
      · rw [y1]
        unfold mo_day_145
        rw [if_pos (by rw [hd0]; decide), z1]
      · rw [← eZ]
        exact a2.cs (fun a h1 h2 => by rw [cc a (by omega), t6 a (by omega) (by omega)])
      · rw [← eZ]
        exact y2.sm (z3.mono B_frm_sd).sm_d
      · rw [cc 1 (by decide), t2]
        rfl
      · rw [z3 51 11 rfl, y5]
        rfl
      · unfold I_us at *
        rw [c41, e35, e66, e42]
        exact uS
      · unfold I_kep at *
        rw [F 51 60 rfl, c41, F.row 80 (fun _ => rfl), F.row 81 (fun _ => rfl), e42, F.row 79 (fun _ => rfl)]
        exact KS
      · unfold I_rul at *
        rw [F 17 4 rfl, F.row 18 (fun _ => rfl), F 51 26 rfl, F.row 63 (fun _ => rfl), s1 17 (by decide), s1 18 (by decide), s1 51 (by decide), s1 63 (by decide)]
        exact LA
      · rw [cc 45 (by decide)]
        exact t3.1
      · exact (z2 w3).1
      · rw [cc 46 (by decide), t3.2 k hk, (z2 w3).2 k hk, ← w4]
    · -- it is remembered
      obtain ⟨u1, u2, u3, u4, u5, u6⟩ := id uA
      have hco := me_commit_s (h := h7) u1 u2 (by rw [F7 41 2 rfl, s1 41 (by decide)]; exact u3) (by rw [F7 41 3 rfl, s1 41 (by decide)]; exact u4)
      generalize hH8 : px_w (px_w h7 41 3 (nI ((s + 1) % 13))) 41 2 (nI (min (U + 1) 12)) = h8 at hco
      have c8 : ∀ a, a ≠ 41 → h8 a = h7 a := fun a ha => by rw [← hH8, B_w_cell _ _ _ ha, B_w_cell _ _ _ ha]
      have F8 : B_fr E_T h7 h8 := by
        rw [← hH8]
        exact ((B_fr.refl _ h7).w rfl).w rfl
      obtain ⟨h9, t1, t2, t3, t4, t5, t6⟩ := hend h8 (by rw [c8 1 (by decide), F7 1 1 rfl, e11S])
      have f51 : ∀ a, 51 ≤ a → h9 a = h a := fun a ha => by rw [t5 a ha, c8 a (by omega), f7 a ha]
      obtain ⟨hD, f, y1, y2, y3, y4, y5, y6, y7, y8, y9, y10, y11⟩ := hdo h9 f51
      obtain ⟨hR, p1, p2, p3, p4, p5, p6⟩ := mo_remember_s (h := hD) (a := 67) (U := U) rfl rfl (by decide) (by decide) u1 (by rw [y6, ← FA 51 35 rfl]; exact u5)
      obtain ⟨hE, z1, z2, z3⟩ := mo_day_157_s (h := hR) (N := l.length) (dn := X0.1) (c := X0.2.2.1) (by omega) (by rw [p4 39 (by decide), y3])
      have FR : B_fr E_T hD hR := fun a k ek => by
        by_cases w1 : a = 51
        · subst w1
          refine p4 k (fun w => ?_)
          subst w
          cases ek
        · by_cases w2 : a = 66
          · subst w2
            cases ek
          · rw [p3 a w2 w1]
      have F : B_fr E_T hS hE := (((((F7.mono E_dd_T).trans F8).trans t4).trans y4).trans FR).trans (z3.mono B_frm_T)
      have cc : ∀ a, a < 51 → hE a = h9 a := fun a ha => by
        rw [z3.row a (fun k => by
          unfold B_frm
          split
          all_goals (first | rfl | (exfalso; omega))), p3 a (by omega) (by omega), y10 a ha]
      have c41 : hE 41 = h8 41 := by rw [cc 41 (by decide), t6 41 (by decide) (by decide)]
      have MR : R_m hR P T K Y X0.2.2.2 := ⟨y2.1.cs (fun k hk => p4 k (by omega)) (fun a h1 h2 => p3 a (by omega) (by omega)), y2.2.cell (p3 52 (by decide) (by decide))⟩
      refine ⟨nI X0.1, h9, hE, ?_, ?_, P, T, K, Y, 0, X0.2.2.2, ev, (I_push2 (hs := hA) (h2 := hE) (f := f) (n2 := 0) RA W uA EA LA y9 ?_ ?_ w1 ⟨by omega, ?_, ?_, fun k hk => absurd hk (by omega)⟩ ?_ ?_ ?_ ?_ ?_ ?_ ?_ ?_ ?_ ?_ ?_ ?_ ?_ ?_ ?_).up (by omega), 2, by omega, ?_, ?_, fun k hk => ?_⟩
      · rw [hcl]
        unfold wu_day_164
        rw [if_neg (fun w => by
          rw [bn_le0 (by omega)] at w
          exact hd0 w), hco, B_bind, t1, B_bind]
      · rw [y1]
        unfold mo_day_145
        rw [if_neg (fun w => by
          rw [bn_le0 (by omega)] at w
          exact hd0 w), p1, B_bind, z1]
      · exact a2.cs (fun a h1 h2 => by rw [cc a (by omega), t6 a (by omega) (by omega), c8 a (by omega)])
      · exact MR.sm (z3.mono B_frm_sd).sm_d
      · rw [cc 1 (by decide), t2]
        rfl
      · rw [z3 51 11 rfl, p4 11 (by decide), y5]
        rfl
      · rw [F 17 4 rfl, s1 17 (by decide)]
      · rw [F.row 18 (fun _ => rfl), s1 18 (by decide)]
      · rw [F.row 42 (fun _ => rfl), hSv]
      · rw [c41, ← hH8, B_w_same]
      · rw [c41, ← hH8, B_w_at, if_neg (by decide), B_w_same]
      · rw [F 41 1 rfl, s1 41 (by decide)]
      · rw [z3 51 35 rfl, p2]
      · rw [F 51 26 rfl, s1 51 (by decide)]
      · rw [F 51 60 rfl, s1 51 (by decide)]
      · rw [F.row 63 (fun _ => rfl), s1 63 (by decide)]
      · rw [F.row 79 (fun _ => rfl), s1 79 (by decide)]
      · rw [F.row 80 (fun _ => rfl), s1 80 (by decide)]
      · rw [F.row 81 (fun _ => rfl), s1 81 (by decide)]
      · intro k hk
        rw [z3 66 _ rfl, p5 k hk, y8 k hk]
      · intro j hj k hk
        rw [z3 66 _ rfl, p6 j hj k hk, y7, FA 66 _ rfl]
      · rw [cc 45 (by decide)]
        exact t3.1
      · exact (z2 w3).1
      · rw [cc 46 (by decide), t3.2 k hk, (z2 w3).2 k hk, ← w4]
  by_cases n0 : n = 0
  · refine hgood [] h (Or.inl rfl) (fun a ha => by cases ha) (by simp) ?_ (B_fr.refl _ _) (fun hh e => ?_)
    · unfold ac_check
      rw [X.2.1, if_pos (by rw [n0, nI_0]), bc_0]
      rfl
    · obtain ⟨F, hF⟩ : ∃ F, px_F = F + 1 := ⟨px_F - 1, by have : 100 < px_F := px_F_lt (by omega); omega⟩
      have MR := hMR hh e
      refine ⟨M_bg hh n 60, 0, ?_, MR, fun i hi => absurd hi (by simp), B_fr.refl _ _⟩
      rw [hmo hh e, h24, if_pos n0, hF]
      show (if nI 0 = 0 then _ else _) = _
      rw [if_pos (by decide)]
      unfold mo_day_71
      rw [MR.2.1, MR.2.2.2.1, n0, if_pos (by decide)]
      rfl
  · -- the check
    generalize hH4 : px_w (px_w (px_w h 1 2 0) 1 3 (nI (min n 60))) 1 4 (-1) = h4
    have F4 : B_fr E_act h h4 := by
      rw [← hH4]
      exact (((B_fr.refl _ h).w rfl).w rfl).w rfl
    have Cr4 : C_rd h4 n (min n 60) 0 (B_sg h) := by
      refine ⟨by rw [F4 1 1 rfl]; exact X.2.1, ?_, ?_, fun j hj => by rw [F4.row 2 (fun _ => rfl)]; exact sg1 j hj⟩
      · rw [← hH4, B_w_at, if_neg (by decide), B_w_at, if_neg (by decide), B_w_same, nI_0]
      · rw [← hH4, B_w_at, if_neg (by decide), B_w_same]
    have hck : ac_check h = ac_check_17 px_F (nI 1) h4 := by
      unfold ac_check tx_open
      rw [X.2.1, if_neg (nI_ne0 (by omega) (by omega)), bc_60, bc_0, bc_m1, bc_1]
      dsimp only
      rw [B_bind, B_w_at, if_neg (by decide), X.2.1, px_min_nI (by omega) (by omega), hH4]
    obtain ⟨c1, c2⟩ := ac_check_17_s (sg := B_sg h) hmn hn hm60 sg2 61 0 px_F 1 h4 (by omega) (px_F_lt (by omega)) (Nat.zero_le _) (by omega) (by omega) Cr4
    have hm1 := fun (hh : pH) (e : ∀ a, 51 ≤ a → hh a = h a) => mo_day_39_s (mo := 60) hn rfl sg2 61 0 px_F 0 (M_bg hh n 60) (by omega) (px_F_lt (by omega)) (Nat.zero_le _) (by omega) (hMR hh e)
    have hmd : ∀ hh, (∀ a, 51 ≤ a → hh a = h a) → mo_day hh = mo_day_39 px_F (nI 0) (nI 1) (M_bg hh n 60) := fun hh e => by
      rw [hmo hh e, h24, if_neg n0]
    obtain ⟨o1, o2, o3⟩ := S_dl_ok (sg := B_sg h) (n := n) (m := min n 60) 61 0 (Nat.zero_le _)
    cases hf : (S_dl (B_sg h) n (min n 60) 61 0).2 with
    | some f =>
      have hfl := o2 f hf
      obtain ⟨h', x1, x2⟩ := c1 f hf
      have FC : B_fr E_act h h' := F4.trans x2
      have f51 : ∀ a, 51 ≤ a → (px_w h' 1 1 0) a = h a := fun a ha => by
        rw [B_w_cell _ _ _ (by omega)]
        exact FC.row a (fun k => by
          unfold E_act
          split
          all_goals (first | rfl | (exfalso; omega)))
      obtain ⟨h7, y1, y2⟩ := (hm1 _ f51).1 f hf
      have hlt : ¬ 0 ≤ (-1 : Int32) - nI f := by
        have hd : ∀ f, f < 81 → ¬ 0 ≤ (-1 : Int32) - nI f := by decide
        exact hd f (by omega)
      refine ⟨-1 - nI f, px_w h' 1 1 0, h7, ?_, by rw [hmd _ f51, y1], B_rd0 I r ((FC.mono E_act_sc1).w rfl) ((M_bg_fr _ _ _).trans (y2.mono E_md_sd1)) (B_w_same _ _ _ _) ?_ ?_ ?_ ?_ ?_⟩
      · unfold wu_day
        rw [hck, x1, B_bind, if_neg hlt, ecut h' (by rw [FC 1 1 rfl]; exact X.2.1), B_bind]
      · rw [y2 51 11 rfl, hb11]
      · rw [B_w_cell _ _ _ (by decide), FC 45 1 rfl]
      · rw [B_w_cell _ _ _ (by decide), FC.row 46 (fun _ => rfl)]
      · rw [y2 51 13 rfl, hbk _ 13 (by decide) (by decide) (by decide) (by decide) (by decide) (by decide) (by decide)]
      · rw [y2.row 59 (fun _ => rfl), M_bg_row _ _ _ (by decide)]
    | none =>
      obtain ⟨h', x1, x2⟩ := c2 hf
      rw [show 1 - 1 + (S_dl (B_sg h) n (min n 60) 61 0).1.length = (S_dl (B_sg h) n (min n 60) 61 0).1.length by omega] at x1
      refine hgood (S_dl (B_sg h) n (min n 60) 61 0).1 h' (Or.inr ⟨Nat.zero_le _, Prod.ext rfl hf⟩) o1 (by omega) (by rw [hck, x1]) (F4.trans x2) (fun hh e => ?_)
      obtain ⟨hB, k', b1, b2, b3, b4, b5⟩ := (hm1 hh e).2 hf
      rw [Nat.zero_add] at b1
      exact ⟨hB, k', by rw [hmd hh e, b1], b2, b3, b5⟩
end DAYCALL
