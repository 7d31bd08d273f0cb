/-! Layer B: years -/
noncomputable def S_nx (d : Int32) : Int32 := d * px_k 1103515245 + px_c 12345
def S_u (d : Int32) : Nat := d.toUInt32.toNat / 65536
theorem S_u_lt (d : Int32) : S_u d < 65536 := by
  unfold S_u
  have := d.toUInt32.toNat_lt
  omega
theorem px_ush_16 (d : Int32) : px_ush d (px_c 16) = nI (S_u d) := by
  have e16 : (px_c 16).toUInt32 &&& Int32.toUInt32 31 = 16 := by
    have : px_c 16 = nI 16 := pc_n 16
    rw [this]
    decide
  unfold px_ush
  rw [e16]
  apply Int32.toBitVec_inj.mp
  apply BitVec.eq_of_toNat_eq
  unfold S_u nI
  have hd := d.toUInt32.toNat_lt
  have he : d.toUInt32.toNat = d.toBitVec.toNat := rfl
  simp [Nat.shiftRight_eq_div_pow]
  omega
theorem nI_mod_s {u m : Nat} (hm : 0 < m) (hm2 : m < 2 ^ 31) (hu : u < 65536) : nI u - nI u / nI m * nI m = nI (u % m) := by
  have hd : nI u / nI m = nI (u / m) := by
    apply Int32.toInt_inj.mp
    rw [Int32.toInt_div_of_ne_right (h := by
      intro e
      have := congrArg Int32.toInt e
      rw [nI_toInt hm2] at this
      have e1 : (-1 : Int32).toInt = -1 := by decide
      rw [e1] at this
      omega), nI_toInt (by omega), nI_toInt hm2, nI_toInt (by have := Nat.div_le_self u m; omega)]
    rw [Int.tdiv_eq_ediv_of_nonneg (by omega)]
    rfl
  have hle : u / m * m ≤ u := Nat.div_mul_le_self u m
  rw [hd, pk_mul, pk_sub hle]
  congr 1
  have := Nat.div_add_mod u m
  rw [Nat.mul_comm] at this
  omega
theorem wu_draw_s {h : pH} {m : Nat} (hm : 0 < m) (hm2 : m < 2 ^ 31) : wu_draw (nI m) h = some (nI (S_u (S_nx (h 0 11)) % m), px_w h 0 11 (S_nx (h 0 11))) := by
  unfold wu_draw wu_draw_33
  dsimp only
  rw [B_w_same, if_neg (fun w => by rw [bn_le0 hm2] at w; omega), if_neg (nI_ne0 (by omega) hm2)]
  show some (px_ush (S_nx (h 0 11)) (px_c 16) - px_ush (S_nx (h 0 11)) (px_c 16) / nI m * nI m, px_w h 0 11 (S_nx (h 0 11))) = _
  rw [px_ush_16, nI_mod_s hm hm2 (S_u_lt _)]
theorem mo_draw_s {h : pH} {m : Nat} (hm : 0 < m) (hm2 : m < 2 ^ 31) : mo_draw (nI m) h = some (nI (S_u (S_nx (h 51 58)) % m), px_w h 51 58 (S_nx (h 51 58))) := by
  unfold mo_draw
  dsimp only
  rw [B_w_same, if_neg (nI_ne0 (by omega) hm2)]
  show some (px_ush (S_nx (h 51 58)) (px_c 16) - px_ush (S_nx (h 51 58)) (px_c 16) / nI m * nI m, px_w h 51 58 (S_nx (h 51 58))) = _
  rw [px_ush_16, nI_mod_s hm hm2 (S_u_lt _)]
section YEARS
variable {i : Nat} {h : pH} {P T K Y p t : Nat} {Z : pH} {ev : pE}
def S_yb (Z : pH) (p : Nat) : Nat := if Z 1 p = nI 1 then 0 else 1
def S_yok (Z : pH) (T Y p t : Nat) : Bool := S_can Z T (nI 1 <<< (nI p &&& 31)) [] (nI t) && decide (S_dist Z Y (B_n (Z 1 p)) (S_yb Z p) ≤ S_wds Z [t])
noncomputable def S_yX (ev : pE) (Z : pH) (Y p t : Nat) : Nat × Option Nat × pH := S_go ev Z (S_dist Z Y (B_n (Z 1 p)) (S_yb Z p)) (nI 1 <<< (nI p &&& 31)) [t]
noncomputable def S_yZ (ev : pE) (Z : pH) (K Y p t : Nat) : pH := S_fin Z Y K (nI 1 <<< (nI p &&& 31)) (B_n (Z 1 p)) (S_yb Z p) (S_yX ev Z Y p t)
def E_yr : Nat → Nat → Bool := fun a k => match a with
  | 5 => true
  | 8 => true
  | 12 => true
  | 13 => true
  | 22 => true
  | 23 => true
  | 24 => true
  | a => E_k a k
theorem E_go_yr : ∀ a k, E_go a k = true → E_yr a k = true := fun a k e => by
  unfold E_go at e
  split at e
  · rfl
  · rfl
  · unfold E_yr
    split <;> first | rfl | exact e
theorem E_set_yr : ∀ a k, E_set a k = true → E_yr a k = true := fun a k e => by
  unfold E_set at e
  have : a = 5 ∨ a = 8 ∨ a = 12 ∨ a = 13 := by simpa using e
  rcases this with rfl | rfl | rfl | rfl <;> rfl
theorem S_yb_f (W : R_w P T K Y Z) (hp : p < P) : ∃ f, f < 2 + K ∧ Z 1 p = nI f ∧ S_yb Z p < 2 ∧ ¬ f = S_yb Z p := by
  have h5 := W.2.2.1
  obtain ⟨f, hf, e⟩ := W.2.2.2.2.2.2.1 p hp
  refine ⟨f, hf, e, ?_, ?_⟩
  · unfold S_yb
    split <;> omega
  · unfold S_yb
    rw [e]
    by_cases q : f = 1
    · rw [q, if_pos rfl]
      decide
    · rw [if_neg (fun w => q ((nI_eq (by omega) (by omega)).mp w))]
      exact q
theorem S_abd_1 (x : Int32) : S_abd x (-1) = nI 1 <<< (x &&& 31) := by
  unfold S_abd
  rw [if_pos rfl]
  exact Int32.or_zero
theorem wu_crossesBy_s (hp : p < P) (ht10 : t < 10) (C : C_h h P T K Y Z ev) (W : R_w P T K Y Z) : ∃ h', wu_crossesBy (nI p) (nI t) h = some (B_01 (S_yok Z T Y p t), h') ∧ R_c h' P T K Y (if S_yok Z T Y p t = true then S_yZ ev Z K Y p t else Z) ∧ (S_yok Z T Y p t = true → h' 22 11 = S_enc (S_yX ev Z Y p t).2.1) ∧ B_fr E_yr h h' := by
  have h6 := W.1
  have h5 := W.2.2.1
  have h10 := W.2.1
  obtain ⟨f, hf, ef, hb, hfb⟩ := S_yb_f W hp
  have R := C.1
  have hq : S_beg Z P (nI p) (-1) (nI (S_yb Z p)) = true := by
    rw [S_beg_1, B_is_t hp (by omega), B_is_t hb (by omega), B_n_nI (by omega), ef, decide_eq_false (fun w => hfb ((nI_eq (by omega) (by omega)).mp w))]
    rfl
  have e55 : ∀ hh, wu_crossesBy_55 hh = some (0, hh) := fun hh => by
    unfold wu_crossesBy_55
    rw [bc_0, B_bz0]
  have hcr : wu_crossesBy (nI p) (nI t) h = wu_crossesBy_20 (nI p) (nI t) (nI (S_yb Z p)) h := by
    unfold wu_crossesBy
    rw [wa_5 (by omega), B_bind, R.2.2.2.2.2.1 p hp, bc_1, bc_0]
    unfold S_yb
    split
    · rw [nI_0]
    · rfl
  have hbg := cr_begin_s (nI p) (-1) (nI (S_yb Z p)) R W
  rw [hq, if_pos rfl, S_abd_1, B_n_nI (by omega), B_n_nI (by omega)] at hbg
  have efn : B_n (Z 1 p) = f := by rw [ef, B_n_nI (by omega)]
  have hD : S_dist Z Y f (S_yb Z p) ≤ 60 := by
    have l1 := S_yd_le W hf
    have l2 := S_yd_le W (show S_yb Z p < 2 + K by omega)
    unfold S_dist
    omega
  generalize hab : nI 1 <<< (nI p &&& 31) = ab at hbg
  generalize hH2 : B_ld h ab (Z 1 p) (nI (S_yb Z p)) (nI (S_dist Z Y (B_n (Z 1 p)) (S_yb Z p))) = h2 at hbg
  have F2 : B_fr E_yr h h2 := by rw [← hH2]; exact (((((B_fr.refl _ h).w rfl).w rfl).w rfl).w rfl).w rfl
  have F2s : B_fr B_sc h h2 := by rw [← hH2]; exact B_ld_fr _ _ _ _ _
  have d5 : h2 22 5 = 0 := by rw [← hH2, B_ld_5]
  have d6 : h2 22 6 = ab := by rw [← hH2, B_ld_6]
  have d7 : h2 22 7 = nI f := by rw [← hH2, B_ld_7, ef]
  have d8 : h2 22 8 = nI (S_yb Z p) := by rw [← hH2, B_ld_8]
  have d9 : h2 22 9 = nI (S_dist Z Y f (S_yb Z p)) := by rw [← hH2, B_ld_9, efn]
  have Cr0 : C_row h2 [] := ⟨d5, by simp, fun k hk => absurd hk (by simp)⟩
  have hct := cr_take_s (r := []) (nI t) (fun k hk => absurd hk (by simp)) Cr0 d6 (R.sm F2s.sm_c) W
  have hm1 : px_c (-1) = -1 := bc_m1
  unfold S_yok
  rw [hab]
  cases hcan : S_can Z T ab [] (nI t) with
  | false =>
    rw [hcan] at hct
    refine ⟨h2, ?_, ?_, fun q => absurd q (by simp), F2⟩
    · rw [hcr]
      unfold wu_crossesBy_20
      rw [hm1, hbg, B_bind, if_neg (by decide), hct, if_neg (by simp), B_bind, if_pos rfl, e55]
      rfl
    · simp only [Bool.false_and, Bool.false_eq_true, if_false]
      exact R.sm F2s.sm_c
  | true =>
    rw [hcan, if_pos (by simp)] at hct
    obtain ⟨t', ht', et, -, -, -⟩ := S_can_ex W hcan
    have : t' = t := ((nI_eq (by omega) (by omega)).mp et).symm
    subst this
    generalize hH3 : px_w (px_w h2 23 [].length (nI t')) 22 5 (nI ([].length + 1)) = h3 at hct
    have F3 : B_fr E_yr h2 h3 := by rw [← hH3]; exact ((B_fr.refl _ h2).w rfl).w rfl
    have F3s : B_fr B_sc h2 h3 := by rw [← hH3]; exact ((B_fr.refl _ h2).w rfl).w rfl
    have g22 : ∀ k, k ≠ 5 → h3 22 k = h2 22 k := fun k hk => by rw [← hH3, B_w_at, if_neg hk, B_w_cell _ _ _ (by decide)]
    have Cr1 : C_row h3 [t'] := ⟨by rw [← hH3, B_w_same]; rfl, by simp, fun k hk => by
      have : k = 0 := by simpa using hk
      subst this
      rw [← hH3, B_w_cell _ _ _ (by decide)]
      exact B_w_same _ _ _ _⟩
    have hr1 : r_in [t'] T := fun k hk => by
      have : k = 0 := by simpa using hk
      subst this
      exact ht'
    have C3 : C_h h3 P T K Y Z ev := (C.fr F2s).fr F3s
    have hhw := cr_hasWords_s hD (by rw [g22 9 (by decide), d9]) hr1 Cr1 C3.1 W
    rw [efn]
    cases hw : decide (S_dist Z Y f (S_yb Z p) ≤ S_wds Z [t']) with
    | false =>
      rw [hw] at hhw
      refine ⟨h3, ?_, ?_, fun q => absurd q (by simp), F2.trans F3⟩
      · rw [hcr]
        unfold wu_crossesBy_20
        rw [hm1, hbg, B_bind, if_neg (by decide), hct, B_bind, if_neg (by decide), hhw, B_bind, if_pos (show B_01 false = 0 from rfl), e55]
        rfl
      · simp only [Bool.and_false, Bool.false_eq_true, if_false]
        exact C3.1
    | true =>
      rw [hw] at hhw
      have hnd : [t'].Nodup := by simp
      obtain ⟨h4, g1, g2, g3, g4, g5, g6, g7⟩ := cr_go_s (ev := ev) (ab := ab) (p := f) (b := S_yb Z p) hD hf hb hr1 hnd W C3 Cr1 (by rw [g22 6 (by decide), d6]) (by rw [g22 7 (by decide), d7]) (by rw [g22 8 (by decide), d8]) (by rw [g22 9 (by decide), d9])
      have C4 := C3.fr (g2.mono E_go_sc)
      have hXs : ∀ t, (S_go ev Z (S_dist Z Y f (S_yb Z p)) ab [t']).2.1 = some t → t < T := foldl_said [t'] (0, none, Z) (fun t q => by cases q) (r_in_mem hr1)
      obtain ⟨h5', t1, t2, t3⟩ := cr_settle_s (p := f) (b := S_yb Z p) (ab := ab) hf hb hr1 W C4.1 (Cr1.fr g2) (x := S_go ev Z (S_dist Z Y f (S_yb Z p)) ab [t']) (by rw [g2 22 6 rfl, g22 6 (by decide), d6]) g4 hXs g5 hnd g6 g7
      refine ⟨h5', ?_, ?_, fun _ => ?_, ((F2.trans F3).trans (g2.mono E_go_yr)).trans (t3.mono E_set_yr)⟩
      · rw [hcr]
        unfold wu_crossesBy_20
        rw [hm1, hbg, B_bind, if_neg (by decide), hct, B_bind, if_neg (by decide), hhw, B_bind, if_neg (show ¬ B_01 true = 0 by decide), g1, B_bind, t1, B_bind, bc_1, B_bz1]
        rfl
      · simp only [Bool.and_self, if_true]
        unfold S_yZ S_yX
        rw [hab, efn]
        exact t2
      · unfold S_yX
        rw [hab, efn, t3 22 11 rfl, g4]
noncomputable def S_ys (ev : pE) (P T K Y : Nat) (x : pH × Int32 × Int32 × Int32) : pH × Int32 × Int32 × Int32 := if S_yok x.1 T Y (S_u (S_nx x.2.1) % P) (S_u (S_nx (S_nx x.2.1)) % 10) = true then (S_yZ ev x.1 K Y (S_u (S_nx x.2.1) % P) (S_u (S_nx (S_nx x.2.1)) % 10), S_nx (S_nx x.2.1), if (S_yX ev x.1 Y (S_u (S_nx x.2.1) % P) (S_u (S_nx (S_nx x.2.1)) % 10)).2.1 = none then (x.2.2.1 + nI 1, x.2.2.2) else (x.2.2.1, x.2.2.2 + nI 1)) else (x.1, S_nx (S_nx x.2.1), x.2.2)
noncomputable def S_yl (ev : pE) (P T K Y : Nat) : Nat → pH × Int32 × Int32 × Int32 → pH × Int32 × Int32 × Int32
  | 0, x => x
  | m + 1, x => S_yl ev P T K Y m (S_ys ev P T K Y x)
theorem S_yok_t {W : R_w P T K Y Z} (ht10 : t < 10) (q : S_yok Z T Y p t = true) : t < T ∧ S_dist Z Y (B_n (Z 1 p)) (S_yb Z p) ≤ S_wds Z [t] := by
  have h10 := W.2.1
  unfold S_yok at q
  rw [Bool.and_eq_true, decide_eq_true_eq] at q
  obtain ⟨t', ht', et, -, -, -⟩ := S_can_ex W q.1
  have : t' = t := ((nI_eq (by omega) (by omega)).mp et).symm
  exact ⟨by omega, q.2⟩
theorem S_yZ_W (hp : p < P) (ht : t < T) (W : R_w P T K Y Z) : R_w P T K Y (S_yZ ev Z K Y p t) := by
  have h5 := W.2.2.1
  obtain ⟨f, hf, ef, hb, hfb⟩ := S_yb_f W hp
  have efn : B_n (Z 1 p) = f := by rw [ef, B_n_nI (by omega)]
  unfold S_yZ S_yX
  rw [efn]
  exact S_fin_W hf hb (foldl_W [t] (0, none, Z) (fun t' h' => by
    have : t' = t := by simpa using h'
    omega) W)
theorem S_yZ_ne {a k : Nat} (h1 : a ≠ 1) (h4 : a ≠ 4) (h8 : a ≠ 8) (h9 : a ≠ 9) : S_yZ ev Z K Y p t a k = Z a k := by
  unfold S_yZ S_fin S_mv
  rw [if_neg (fun w => h1 w.1)]
  have e : (S_yX ev Z Y p t).2.2 a k = Z a k := foldl_ne [t] (0, none, Z) a k (fun w => h4 w.1)
  cases (S_yX ev Z Y p t).2.1 with
  | none => exact e
  | some u =>
    show (S_tl (S_yX ev Z Y p t).2.2 u _) a k = _
    unfold S_tl
    rw [B_w_cell _ _ _ h9, B_w_cell _ _ _ h8]
    exact e
theorem S_ys_W (hP : 0 < P) {x : pH × Int32 × Int32 × Int32} (W : R_w P T K Y x.1) : R_w P T K Y (S_ys ev P T K Y x).1 := by
  unfold S_ys
  split
  · rename_i q
    exact S_yZ_W (Nat.mod_lt _ hP) (S_yok_t (W := W) (Nat.mod_lt _ (by decide)) q).1 W
  · exact W
theorem S_ys_ne {x : pH × Int32 × Int32 × Int32} {a k : Nat} (h1 : a ≠ 1) (h4 : a ≠ 4) (h8 : a ≠ 8) (h9 : a ≠ 9) : (S_ys ev P T K Y x).1 a k = x.1 a k := by
  unfold S_ys
  split
  · exact S_yZ_ne h1 h4 h8 h9
  · rfl
theorem S_yl_W (hP : 0 < P) : ∀ (m : Nat) (x : pH × Int32 × Int32 × Int32), R_w P T K Y x.1 → R_w P T K Y (S_yl ev P T K Y m x).1 := by
  intro m
  induction m with
  | zero => intro x W; exact W
  | succ m ih => intro x W; exact ih _ (S_ys_W hP W)
theorem S_yl_ne {a k : Nat} (h1 : a ≠ 1) (h4 : a ≠ 4) (h8 : a ≠ 8) (h9 : a ≠ 9) : ∀ (m : Nat) (x : pH × Int32 × Int32 × Int32), (S_yl ev P T K Y m x).1 a k = x.1 a k := by
  intro m
  induction m with
  | zero => intro x; rfl
  | succ m ih => intro x; exact (ih _).trans (S_ys_ne h1 h4 h8 h9)
def E_yy : Nat → Nat → Bool := fun a k => match a with
  | 0 => Nat.beq k 11
  | a => E_yr a k
theorem E_yr_yy : ∀ a k, E_yr a k = true → E_yy a k = true := fun a k e => by
  unfold E_yy
  split
  · unfold E_yr at e
    have : E_k 0 k = true := e
    cases this
  · exact e
theorem S_enc_m {o : Option Nat} (h : ∀ t, o = some t → t < 2 ^ 31) : (S_enc o = -1) = (o = none) := by
  cases o with
  | none => exact propext ⟨fun _ => rfl, fun _ => rfl⟩
  | some t =>
    have := h t rfl
    refine propext ⟨fun w => ?_, fun w => by cases w⟩
    have w2 : nI t = -1 := w
    rw [bn_eqm this] at w2
    exact w2.elim
theorem C_h.yr {h' : pH} {Z2 : pH} (C : C_h h P T K Y Z ev) (x : B_fr E_yr h h') (R : R_c h' P T K Y Z2) : C_h h' P T K Y Z2 ev := by
  refine ⟨R, ?_⟩
  rw [x 17 4 rfl, x.row 18 (fun _ => rfl)]
  exact C.2
theorem wu_years_loop {N : Nat} (hN : N ≤ 40) (hP : 0 < P) : ∀ (m j n : Nat) (x : pH × Int32 × Int32 × Int32) (h : pH), j + m = N → m < n → C_h h P T K Y x.1 ev → R_w P T K Y x.1 → h 0 11 = x.2.1 → ∃ h', wu_years_50 n (nI N) x.2.2.1 x.2.2.2 (nI j) h = px_bind (tl_tell_ (S_yl ev P T K Y m x).2.2.1 (S_said (S_yl ev P T K Y m x).1 T) h') (fun _ h4 => px_bind (me_unstage h4) fun _ h6 => some ((S_yl ev P T K Y m x).2.2.2, h6)) ∧ R_c h' P T K Y (S_yl ev P T K Y m x).1 ∧ B_fr E_yy h h' := by
  intro m
  induction m with
  | zero =>
    intro j n x h hj hn C W hd
    obtain ⟨n, rfl⟩ : ∃ n', n = n' + 1 := ⟨n - 1, by omega⟩
    refine ⟨h, ?_, C.1, B_fr.refl _ _⟩
    show (if nI N ≤ nI j then _ else _) = _
    rw [if_pos (nI_le (by omega) (by omega)), hs_saidThings_s C.1 W, B_bind]
    rfl
  | succ m ih =>
    intro j n x h hj hn C W hd
    obtain ⟨n, rfl⟩ : ∃ n', n = n' + 1 := ⟨n - 1, by omega⟩
    have h6 := W.1
    have h10 := W.2.1
    have hpP : S_u (S_nx x.2.1) % P < P := Nat.mod_lt _ hP
    have ht10 : S_u (S_nx (S_nx x.2.1)) % 10 < 10 := Nat.mod_lt _ (by decide)
    generalize hH1 : px_w (px_w h 0 11 (S_nx x.2.1)) 0 11 (S_nx (S_nx x.2.1)) = h1
    have F1 : B_fr E_yy h h1 := by rw [← hH1]; exact ((B_fr.refl _ h).w rfl).w rfl
    have F1s : B_fr B_sc h h1 := by rw [← hH1]; exact ((B_fr.refl _ h).w rfl).w rfl
    obtain ⟨h2, q1, q2, q3, q4⟩ := wu_crossesBy_s (h := h1) (p := S_u (S_nx x.2.1) % P) (t := S_u (S_nx (S_nx x.2.1)) % 10) hpP ht10 (C.fr F1s) W
    have hz : wu_years_50 (n + 1) (nI N) x.2.2.1 x.2.2.2 (nI j) h = wu_years_50 n (nI N) (S_ys ev P T K Y x).2.2.1 (S_ys ev P T K Y x).2.2.2 (nI (j + 1)) h2 := by
      show (if nI N ≤ nI j then _ else px_bind (wu_draw (h 3 10) h) _) = _
      have d1 := wu_draw_s (h := h) hP (show P < 2 ^ 31 by omega)
      rw [hd] at d1
      have d2 := wu_draw_s (h := px_w h 0 11 (S_nx x.2.1)) (show 0 < 10 by decide) (show 10 < 2 ^ 31 by decide)
      rw [B_w_same, hH1] at d2
      rw [if_neg (nI_ge (by omega) (by omega)), C.1.1, d1, B_bind, bc_10, d2, B_bind, q1, B_bind]
      have e128 : ∀ a b, wu_years_128 (wu_years_50 n) (nI N) a b (nI j) h2 = wu_years_50 n (nI N) a b (nI (j + 1)) h2 := fun a b => by
        unfold wu_years_128
        rw [bc_1, nI_add]
      unfold S_ys
      cases hok : S_yok x.1 T Y (S_u (S_nx x.2.1) % P) (S_u (S_nx (S_nx x.2.1)) % 10) with
      | false =>
        rw [if_pos (show B_01 false = 0 from rfl), e128, if_neg (by decide)]
      | true =>
        rw [if_neg (show ¬ B_01 true = 0 by decide), if_pos rfl]
        have hT := S_yok_t (W := W) ht10 hok
        have hXs : ∀ t, (S_yX ev x.1 Y (S_u (S_nx x.2.1) % P) (S_u (S_nx (S_nx x.2.1)) % 10)).2.1 = some t → t < 2 ^ 31 := fun t e => by
          have := foldl_said (T := T) [S_u (S_nx (S_nx x.2.1)) % 10] (0, none, x.1) (fun t q => by cases q) (fun t' h' => by
            have : t' = S_u (S_nx (S_nx x.2.1)) % 10 := by simpa using h'
            omega) t e
          omega
        have e11 : (h2 22 11 = px_c (-1)) = ((S_yX ev x.1 Y (S_u (S_nx x.2.1) % P) (S_u (S_nx (S_nx x.2.1)) % 10)).2.1 = none) := by rw [bc_m1, q3 hok, S_enc_m hXs]
        unfold wu_years_105 wu_years_125
        simp only [e11, e128]
        by_cases w : (S_yX ev x.1 Y (S_u (S_nx x.2.1) % P) (S_u (S_nx (S_nx x.2.1)) % 10)).2.1 = none
        · simp only [if_pos w]
          rw [bc_1, bc_0, Int32.add_zero]
        · simp only [if_neg w]
          rw [bc_1, bc_0, Int32.add_zero]
    have e1 : (S_ys ev P T K Y x).1 = if S_yok x.1 T Y (S_u (S_nx x.2.1) % P) (S_u (S_nx (S_nx x.2.1)) % 10) = true then S_yZ ev x.1 K Y (S_u (S_nx x.2.1) % P) (S_u (S_nx (S_nx x.2.1)) % 10) else x.1 := by
      unfold S_ys
      split <;> rfl
    have e2 : (S_ys ev P T K Y x).2.1 = S_nx (S_nx x.2.1) := by
      unfold S_ys
      split <;> rfl
    rw [← e1] at q2
    obtain ⟨h3, u1, u2, u3⟩ := ih (j + 1) n (S_ys ev P T K Y x) h2 (by omega) (by omega) ((C.fr F1s).yr q4 q2) (S_ys_W hP W) (by rw [q4 0 11 rfl, ← hH1, B_w_same, e2])
    exact ⟨h3, hz.trans u1, u2, (F1.trans (q4.mono E_yr_yy)).trans u3⟩
theorem M_h.sd {h' : pH} {S : pH} (M : M_h h P T K Y S ev) (x : B_fr B_sd h h') : M_h h' P T K Y S ev := by
  obtain ⟨R, E⟩ := M
  refine ⟨?_, ?_⟩
  · unfold R_k at *
    rw [x 51 4 rfl, x 51 6 rfl, x 51 2 rfl, x 51 1 rfl, x.row 54 (fun _ => rfl), x.row 55 (fun _ => rfl), x.row 56 (fun _ => rfl), x.row 57 (fun _ => rfl), x.row 53 (fun _ => rfl)]
    exact R
  · rw [x 51 26 rfl, x.row 63 (fun _ => rfl)]
    exact E
theorem M_h_Z {Z2 : pH} (M : M_h h P T K Y Z ev) (e : ∀ a k, a ≠ 1 → a ≠ 4 → a ≠ 8 → a ≠ 9 → Z2 a k = Z a k) : M_h h P T K Y Z2 ev := by
  obtain ⟨⟨mP, mT, mK, mY, m0, m3, m5, m7, m10⟩, E⟩ := M
  exact ⟨⟨mP, mT, mK, mY, fun k hk => by rw [m0 k hk, e 0 k (by decide) (by decide) (by decide) (by decide)], fun k hk => by rw [m3 k hk, e 3 k (by decide) (by decide) (by decide) (by decide)], fun k hk => by rw [m5 k hk, e 5 k (by decide) (by decide) (by decide) (by decide)], fun k hk => by rw [m7 k hk, e 7 k (by decide) (by decide) (by decide) (by decide)], fun k hk => by rw [m10 k hk, e 10 k (by decide) (by decide) (by decide) (by decide)]⟩, E⟩
theorem mo_years_year {r52 : Int32 → Int32 → Int32 → Int32 → pH → pR} {x2 x3 x4 : Int32} {j : Nat} (hp : p < P) (ht10 : t < 10) (M : M_h h P T K Y Z ev) (A : R_a h 78 P T Z) (W : R_w P T K Y Z) : ∃ h', mo_years_92 r52 x2 x3 x4 (nI j) (nI p) (nI t) (nI (S_yb Z p)) h = (if S_yok Z T Y p t = true then (if (S_yX ev Z Y p t).2.1 = none then r52 x2 x3 (x4 + nI 1) (nI (j + 1)) h' else r52 x2 (x3 + nI 1) x4 (nI (j + 1)) h') else r52 x2 x3 x4 (nI (j + 1)) h') ∧ R_a h' 78 P T (if S_yok Z T Y p t = true then S_yZ ev Z K Y p t else Z) ∧ B_fr B_sd h h' ∧ h' 51 58 = h 51 58 := by
  have h6 := W.1
  have h5 := W.2.2.1
  have h10 := W.2.1
  have hs : B_sl 78 := Or.inr (Or.inr (Or.inr (Or.inr rfl)))
  obtain ⟨f, hf, ef, hb, hfb⟩ := S_yb_f W hp
  have efn : B_n (Z 1 p) = f := by rw [ef, B_n_nI (by omega)]
  have hD : S_dist Z Y f (S_yb Z p) ≤ 60 := by
    have l1 := S_yd_le W hf
    have l2 := S_yd_le W (show S_yb Z p < 2 + K by omega)
    unfold S_dist
    omega
  generalize hab : nI 1 <<< (nI p &&& 31) = ab
  have e192 : ∀ a b hh, mo_years_192 r52 x2 a b (nI j) hh = r52 x2 a b (nI (j + 1)) hh := fun a b hh => by
    unfold mo_years_192
    rw [bc_1, nI_add]
  have F1 : B_fr B_sd h (px_w h 51 30 0) := (B_fr.refl _ h).w rfl
  have Mr0 : M_row (px_w h 51 30 0) [] := ⟨B_w_same _ _ _ _, by simp, fun k hk => absurd hk (by simp)⟩
  have A1 : R_a (px_w h 51 30 0) 78 P T Z := A.cell (B_w_cell _ _ _ (by decide))
  have hcan := mo_canLine_s (ab := ab) (nI t) hs.t hs.l (fun k hk => absurd hk (by simp)) Mr0 (M.sd F1).1 A1 W
  have hz : mo_years_92 r52 x2 x3 x4 (nI j) (nI p) (nI t) (nI (S_yb Z p)) h = if S_can Z T ab [] (nI t) = true then mo_years_127 r52 x2 x3 x4 (nI j) (nI p) (nI (S_yb Z p)) (px_w (px_w h 51 30 0) 65 0 (nI t)) else r52 x2 x3 x4 (nI (j + 1)) (px_w h 51 30 0) := by
    unfold mo_years_92
    rw [bc_0, bc_1, hab]
    dsimp only
    rw [hcan, B_bind, ← nI_0, po_65 (by omega), B_ift, nI_clamp (by omega), nI_0, e192]
    cases S_can Z T ab [] (nI t) with
    | false => rw [if_pos (show B_01 false = 0 from rfl), if_neg (by decide)]
    | true => rw [if_neg (show ¬ B_01 true = 0 by decide), if_pos rfl]
  rw [hz]
  unfold S_yok
  rw [hab]
  cases hc : S_can Z T ab [] (nI t) with
  | false =>
    refine ⟨px_w h 51 30 0, ?_, ?_, F1, ?_⟩
    · simp only [Bool.false_and, Bool.false_eq_true, if_false]
    · simp only [Bool.false_and, Bool.false_eq_true, if_false]
      exact A1
    · rw [B_w_at, if_neg (by decide)]
  | true =>
    obtain ⟨t', ht', et, -, -, -⟩ := S_can_ex W hc
    have : t' = t := ((nI_eq (by omega) (by omega)).mp et).symm
    subst this
    generalize hH2 : px_w (px_w (px_w h 51 30 0) 65 0 (nI t')) 51 30 (nI 1) = h2
    have F2 : B_fr B_sd h h2 := by rw [← hH2]; exact (F1.w rfl).w rfl
    have M2 := M.sd F2
    have A2 : R_a h2 78 P T Z := A.cell (by rw [← hH2, B_w_cell _ _ _ (by decide), B_w_cell _ _ _ (by decide), B_w_cell _ _ _ (by decide)])
    have Mr1 : M_row h2 [t'] := ⟨by rw [← hH2, B_w_same]; rfl, by simp, fun k hk => by
      have : k = 0 := by simpa using hk
      subst this
      rw [← hH2, B_w_cell _ _ _ (by decide)]
      exact B_w_same _ _ _ _⟩
    have hr1 : r_in [t'] T := fun k hk => by
      have : k = 0 := by simpa using hk
      subst this
      exact ht'
    have hwd := mo_wordsIn_s hs.t hs.l hr1 Mr1 A2 W
    have hS40 : S_wds Z [t'] < 2 ^ 31 := by
      obtain ⟨v, hv, e⟩ := W.2.2.2.2.2.2.2.2.1 t' ht'
      unfold S_wds
      simp only [List.map_cons, List.map_nil, List.sum_cons, List.sum_nil, e]
      rw [B_n_nI (by omega)]
      omega
    have e58 : h2 51 58 = h 51 58 := by rw [← hH2, B_w_at, if_neg (by decide), B_w_cell _ _ _ (by decide), B_w_at, if_neg (by decide)]
    simp only [if_true]
    unfold mo_years_127
    rw [bc_1]
    dsimp only
    rw [hH2, hwd, B_bind, px_ok_a hs.t hs.l (by omega), B_ift, nI_clamp (by omega), A2.1 p hp, ef, mo_distance_s hf (show S_yb Z p < 2 + K by omega) M2.1 W, B_bind, B_ift, hab, A2.1 p hp, ef, B_n_nI (show f < 2 ^ 31 by omega)]
    by_cases hw : S_dist Z Y f (S_yb Z p) ≤ S_wds Z [t']
    · obtain ⟨h3, n1, n2, n3, n4, n5⟩ := mo_goes_s (ab := ab) hs hf hb W hr1 (by simp) rfl hw M2 A2 Mr1
      have hX : S_yX ev Z Y p t' = S_go ev Z (S_dist Z Y f (S_yb Z p)) ab [t'] := by
        unfold S_yX
        rw [hab, efn]
      have hZ : S_yZ ev Z K Y p t' = S_fin Z Y K ab f (S_yb Z p) (S_go ev Z (S_dist Z Y f (S_yb Z p)) ab [t']) := by
        unfold S_yZ
        rw [hX, hab, efn]
      refine ⟨h3, ?_, ?_, F2.trans (n5.mono (E_g_sd hs (by decide))), by rw [n5 51 58 rfl, e58]⟩
      · rw [if_pos (nI_le hw hS40), n1, B_bind, hX, decide_eq_true hw]
        simp only [Bool.and_self, if_true]
        by_cases q : (S_go ev Z (S_dist Z Y f (S_yb Z p)) ab [t']).2.1 = none
        · rw [if_pos q, if_pos q, if_neg (by decide), e192]
        · rw [if_neg q, if_neg q, if_pos rfl, e192]
      · rw [decide_eq_true hw, hZ]
        simp only [Bool.and_self, if_true]
        exact n2
    · refine ⟨h2, ?_, ?_, F2, e58⟩
      · rw [if_neg (nI_ge (by omega) (by omega)), e192, decide_eq_false hw]
        simp only [Bool.and_false, Bool.false_eq_true, if_false]
      · rw [decide_eq_false hw]
        simp only [Bool.and_false, Bool.false_eq_true, if_false]
        exact A2
theorem mo_years_loop {N : Nat} (hN : N ≤ 40) (hP : 0 < P) : ∀ (m j n : Nat) (x : pH × Int32 × Int32 × Int32) (h : pH), j + m = N → m < n → M_h h P T K Y x.1 ev → R_a h 78 P T x.1 → R_w P T K Y x.1 → h 51 58 = x.2.1 → ∃ h', mo_years_52 n (nI N) x.2.2.2 x.2.2.1 (nI j) h = some ((S_yl ev P T K Y m x).2.2.2, h') ∧ B_rm h' [(S_yl ev P T K Y m x).2.2.1, S_said (S_yl ev P T K Y m x).1 T] ∧ B_fr B_sd h h' := by
  have hs : B_sl 78 := Or.inr (Or.inr (Or.inr (Or.inr rfl)))
  intro m
  induction m with
  | zero =>
    intro j n x h hj hn M A W hd
    obtain ⟨n, rfl⟩ : ∃ n', n = n' + 1 := ⟨n - 1, by omega⟩
    have F1 : B_fr B_sd h (px_w h 51 13 0) := (B_fr.refl _ h).w rfl
    obtain ⟨h2, e2, r2, f2⟩ := mo_tell_s x.2.2.1 (B_rm_nil h) (by decide)
    have F2 := F1.trans (f2.mono B_frm_sd)
    have A2 : R_a h2 78 P T x.1 := A.cell (by rw [f2.row 78 (fun _ => rfl), B_w_cell _ _ _ (by decide)])
    obtain ⟨h3, e3, r3, f3⟩ := mo_tell_s (S_said x.1 T) r2 (by simp)
    refine ⟨h3, ?_, r3, F2.trans (f3.mono B_frm_sd)⟩
    show (if nI N ≤ nI j then _ else _) = _
    rw [if_pos (nI_le (by omega) (by omega)), bc_0]
    dsimp only
    rw [e2, B_bind, mo_saidOnes_s hs.t hs.l (M.sd F2).1 A2 W, B_bind, e3, B_bind]
    rfl
  | succ m ih =>
    intro j n x h hj hn M A W hd
    obtain ⟨n, rfl⟩ : ∃ n', n = n' + 1 := ⟨n - 1, by omega⟩
    have h6 := W.1
    have h10 := W.2.1
    have hpP : S_u (S_nx x.2.1) % P < P := Nat.mod_lt _ hP
    have ht10 : S_u (S_nx (S_nx x.2.1)) % 10 < 10 := Nat.mod_lt _ (by decide)
    generalize hH1 : px_w (px_w h 51 58 (S_nx x.2.1)) 51 58 (S_nx (S_nx x.2.1)) = h1
    have F1 : B_fr B_sd h h1 := by rw [← hH1]; exact ((B_fr.refl _ h).w rfl).w rfl
    have A1 : R_a h1 78 P T x.1 := A.cell (by rw [← hH1, B_w_cell _ _ _ (by decide), B_w_cell _ _ _ (by decide)])
    have M1 := M.sd F1
    obtain ⟨h2, q1, q2, q3, q4⟩ := mo_years_year (r52 := mo_years_52 n) (x2 := nI N) (x3 := x.2.2.2) (x4 := x.2.2.1) (j := j) (t := S_u (S_nx (S_nx x.2.1)) % 10) hpP ht10 M1 A1 W
    have e0 : mo_years_52 (n + 1) (nI N) x.2.2.2 x.2.2.1 (nI j) h = mo_years_92 (mo_years_52 n) (nI N) x.2.2.2 x.2.2.1 (nI j) (nI (S_u (S_nx x.2.1) % P)) (nI (S_u (S_nx (S_nx x.2.1)) % 10)) (nI (S_yb x.1 (S_u (S_nx x.2.1) % P))) h1 := by
      show (if nI N ≤ nI j then _ else px_bind (mo_draw (h 51 4) h) _) = _
      have d1 := mo_draw_s (h := h) hP (show P < 2 ^ 31 by omega)
      rw [hd] at d1
      have d2 := mo_draw_s (h := px_w h 51 58 (S_nx x.2.1)) (show 0 < 10 by decide) (show 10 < 2 ^ 31 by decide)
      rw [B_w_same, hH1] at d2
      rw [if_neg (nI_ge (by omega) (by omega)), M.1.1, d1, B_bind, bc_10, d2, B_bind, px_ok_a hs.t hs.l (by omega), B_ift, nI_clamp (by omega), A1.1 _ hpP, bc_1, bc_0]
      unfold S_yb
      by_cases w : x.1 1 (S_u (S_nx x.2.1) % P) = nI 1
      · rw [if_pos w, if_pos w, nI_0]
      · rw [if_neg w, if_neg w]
    have hz : mo_years_52 (n + 1) (nI N) x.2.2.2 x.2.2.1 (nI j) h = mo_years_52 n (nI N) (S_ys ev P T K Y x).2.2.2 (S_ys ev P T K Y x).2.2.1 (nI (j + 1)) h2 := by
      rw [e0, q1]
      unfold S_ys
      by_cases w : S_yok x.1 T Y (S_u (S_nx x.2.1) % P) (S_u (S_nx (S_nx x.2.1)) % 10) = true
      · rw [if_pos w, if_pos w]
        by_cases w2 : (S_yX ev x.1 Y (S_u (S_nx x.2.1) % P) (S_u (S_nx (S_nx x.2.1)) % 10)).2.1 = none
        · simp only [if_pos w2]
        · simp only [if_neg w2]
      · rw [if_neg w, if_neg w]
    have e1 : (S_ys ev P T K Y x).1 = if S_yok x.1 T Y (S_u (S_nx x.2.1) % P) (S_u (S_nx (S_nx x.2.1)) % 10) = true then S_yZ ev x.1 K Y (S_u (S_nx x.2.1) % P) (S_u (S_nx (S_nx x.2.1)) % 10) else x.1 := by
      unfold S_ys
      split <;> rfl
    have e2 : (S_ys ev P T K Y x).2.1 = S_nx (S_nx x.2.1) := by
      unfold S_ys
      split <;> rfl
    rw [← e1] at q2
    obtain ⟨h3, u1, u2, u3⟩ := ih (j + 1) n (S_ys ev P T K Y x) h2 (by omega) (by omega) (M_h_Z (M1.sd q3) (fun a k g1 g4 g8 g9 => S_ys_ne g1 g4 g8 g9)) q2 (S_ys_W hP W) (by rw [q4, ← hH1, B_w_same, e2])
    exact ⟨h3, hz.trans u1, u2, (F1.trans q3).trans u3⟩
theorem I_h.rc {h2 : pH} {S : pH} {n : Nat} (I : I_h h P T K Y i n S ev) (R2 : R_c h2 P T K Y S) (f : ∀ a k, a ≠ 5 → a ≠ 6 → a ≠ 8 → a ≠ 10 → a ≠ 12 → a ≠ 13 → B_p a k = true → h2 a k = h a k) : I_h h2 P T K Y i n S ev := by
  obtain ⟨R, M, W, X, V, E, L⟩ := I
  have r : ∀ a, B_pls a = none → a ≠ 5 → a ≠ 6 → a ≠ 8 → a ≠ 10 → a ≠ 12 → a ≠ 13 → h2 a = h a := fun a hp g1 g2 g3 g4 g5 g6 => funext fun k => f a k g1 g2 g3 g4 g5 g6 (by unfold B_p; rw [hp])
  have c : ∀ a k, B_p a k = true → a ≠ 5 → a ≠ 6 → a ≠ 8 → a ≠ 10 → a ≠ 12 → a ≠ 13 → h2 a k = h a k := fun a k hp g1 g2 g3 g4 g5 g6 => f a k g1 g2 g3 g4 g5 g6 hp
  refine ⟨R2, ?_, W, ?_, ?_, ?_, ?_⟩
  · unfold R_m R_k R_a at *
    rw [c 51 4 rfl (by decide) (by decide) (by decide) (by decide) (by decide) (by decide), c 51 6 rfl (by decide) (by decide) (by decide) (by decide) (by decide) (by decide), c 51 2 rfl (by decide) (by decide) (by decide) (by decide) (by decide) (by decide), c 51 1 rfl (by decide) (by decide) (by decide) (by decide) (by decide) (by decide), r 54 rfl (by decide) (by decide) (by decide) (by decide) (by decide) (by decide), r 52 rfl (by decide) (by decide) (by decide) (by decide) (by decide) (by decide), r 55 rfl (by decide) (by decide) (by decide) (by decide) (by decide) (by decide), r 56 rfl (by decide) (by decide) (by decide) (by decide) (by decide) (by decide), r 57 rfl (by decide) (by decide) (by decide) (by decide) (by decide) (by decide), r 53 rfl (by decide) (by decide) (by decide) (by decide) (by decide) (by decide)]
    exact M
  · unfold I_txt at *
    rw [c 1 1 rfl (by decide) (by decide) (by decide) (by decide) (by decide) (by decide), r 2 rfl (by decide) (by decide) (by decide) (by decide) (by decide) (by decide), r 58 rfl (by decide) (by decide) (by decide) (by decide) (by decide) (by decide), c 51 11 rfl (by decide) (by decide) (by decide) (by decide) (by decide) (by decide)]
    exact X
  · unfold I_und at *
    rw [c 51 35 rfl (by decide) (by decide) (by decide) (by decide) (by decide) (by decide), r 41 rfl (by decide) (by decide) (by decide) (by decide) (by decide) (by decide), r 42 rfl (by decide) (by decide) (by decide) (by decide) (by decide) (by decide), r 66 rfl (by decide) (by decide) (by decide) (by decide) (by decide) (by decide)]
    exact V
  · unfold I_kep at *
    rw [c 51 60 rfl (by decide) (by decide) (by decide) (by decide) (by decide) (by decide), r 41 rfl (by decide) (by decide) (by decide) (by decide) (by decide) (by decide), r 80 rfl (by decide) (by decide) (by decide) (by decide) (by decide) (by decide), r 81 rfl (by decide) (by decide) (by decide) (by decide) (by decide) (by decide), r 42 rfl (by decide) (by decide) (by decide) (by decide) (by decide) (by decide), r 79 rfl (by decide) (by decide) (by decide) (by decide) (by decide) (by decide)]
    exact E
  · unfold I_rul at *
    rw [c 17 4 rfl (by decide) (by decide) (by decide) (by decide) (by decide) (by decide), c 51 26 rfl (by decide) (by decide) (by decide) (by decide) (by decide) (by decide), r 18 rfl (by decide) (by decide) (by decide) (by decide) (by decide) (by decide), r 63 rfl (by decide) (by decide) (by decide) (by decide) (by decide) (by decide)]
    exact L
theorem E_yy_p {a k : Nat} (e : B_p a k = true) (g1 : a ≠ 5) (g3 : a ≠ 8) (g5 : a ≠ 12) (g6 : a ≠ 13) : E_yy a k = false := by
  cases hq : E_yy a k with
  | false => rfl
  | true =>
    unfold E_yy at hq
    split at hq
    · have : B_p 0 k = false := by
        unfold B_p
        simp [B_pls]
      rw [this] at e
      cases e
    · unfold E_yr at hq
      split at hq
      · exact absurd rfl g1
      · exact absurd rfl g3
      · exact absurd rfl g5
      · exact absurd rfl g6
      · cases e
      · cases e
      · cases e
      · have := E_k_sc _ _ hq
        unfold B_sc at this
        rw [e] at this
        simp at this
theorem B_years (hI : Inv i h) (v0 v1 : Int32) : ∃ r h1 h2, wu_years v0 v1 h = some (r, h1) ∧ mo_years v0 v1 h1 = some (r, h2) ∧ Inv (i + 5) h2 := by
  obtain ⟨P, T, K, Y, n, S, ev, I, r⟩ := hI
  obtain ⟨R, M, W, X, V, E, L⟩ := id I
  have h6 := W.1
  have h10 := W.2.1
  have t1 : (nI 1).toInt = 1 := rfl
  have t40 : (nI 40).toInt = 40 := rfl
  have e11 : ∀ hh, wu_years_11 hh = some (-1, hh) := fun hh => by unfold wu_years_11; rw [bc_m1]
  have hcl : wu_years v0 v1 h = if decide (1 ≤ v1.toInt ∧ v1.toInt ≤ 40) = true then (if P = 0 then some (-2, h) else px_bind (me_stage (px_w h 0 11 v0)) fun _ h3 => wu_years_50 px_F v1 0 0 0 h3) else some (-1, h) := by
    unfold wu_years
    rw [bc_1, bc_40, bc_0, bc_m2, e11]
    have y1 : v1 < nI 1 ↔ v1.toInt < 1 := by rw [Int32.lt_iff_toInt_lt, t1]
    have y40 : v1 ≤ nI 40 ↔ v1.toInt ≤ 40 := by rw [Int32.le_iff_toInt_le, t40]
    by_cases q : 1 ≤ v1.toInt ∧ v1.toInt ≤ 40
    · rw [decide_eq_true q, if_neg (fun w => by have := y1.mp w; omega), if_pos (y40.mpr q.2), if_pos rfl, R.1]
      by_cases w : P = 0
      · rw [if_pos w, if_pos (by rw [w, nI_0])]
      · rw [if_neg w, if_neg (nI_ne0 (by omega) (by omega))]
    · rw [decide_eq_false q]
      by_cases w : v1 < nI 1
      · simp only [if_pos w, Bool.false_eq_true, if_false]
      · have w3 : ¬ v1 ≤ nI 40 := fun w2 => q (by have := y40.mp w2; rw [y1] at w; omega)
        simp only [if_neg w, if_neg w3, Bool.false_eq_true, if_false]
  have hmo : ∀ hh, R_m (B_t0 hh) P T K Y S → mo_years v0 v1 hh = if decide (1 ≤ v1.toInt ∧ v1.toInt ≤ 40) = true then (if P = 0 then some (-2, B_t0 hh) else px_bind (mo_lay 52 78 (px_c 0) (px_w (B_t0 hh) 51 58 v0)) fun _ h2 => mo_years_52 px_F v1 0 0 0 h2) else some (-1, B_t0 hh) := by
    intro hh M2
    unfold mo_years mo_years_32
    rw [bc_0]
    show px_bind (mo_in v1 (px_c 1) (px_c 40) (B_t0 hh)) _ = _
    rw [mo_in_eq, bc_1, bc_40, t1, t40, B_bind, M2.1.1, bc_m2, bc_m1]
    cases hq : decide (1 ≤ v1.toInt ∧ v1.toInt ≤ 40) with
    | false => rw [if_pos (show B_01 false = 0 from rfl), if_neg (by decide)]
    | true =>
      rw [if_neg (show ¬ B_01 true = 0 by decide), if_pos rfl]
      by_cases w : P = 0
      · rw [if_pos w, if_pos (by rw [w, nI_0])]
      · rw [if_neg w, if_neg (nI_ne0 (by omega) (by omega))]
  by_cases q : 1 ≤ v1.toInt ∧ v1.toInt ≤ 40
  · by_cases hP : P = 0
    · refine ⟨-2, h, B_t0 h, ?_, ?_, B_qr I r⟩
      · rw [hcl, decide_eq_true q, if_pos rfl, if_pos hP]
      · rw [hmo h (M.sm (B_t0_fr _).sm_d), decide_eq_true q, if_pos rfl, if_pos hP]
    · obtain ⟨N, hN1, hN, rfl⟩ : ∃ N, 1 ≤ N ∧ N ≤ 40 ∧ v1 = nI N := by
        refine ⟨v1.toInt.toNat, by omega, by omega, ?_⟩
        apply Int32.toInt_inj.mp
        rw [nI_toInt (by omega)]
        omega
      generalize hH0 : px_w h 0 11 v0 = h0 at hcl
      have F0 : B_fr B_sc h h0 := by rw [← hH0]; exact (B_fr.refl _ h).w rfl
      have I0 : I_h h0 P T K Y i n S ev := I.sm F0.sm_c
      obtain ⟨U, s, u⟩ : ∃ U s, I_us h0 P T K U s := I0.2.2.2.2.1
      have IB := I0.stage u
      have uB := u.stage h6 h10
      have hst := me_stage_s u
      have QS := B_sv_Q (b := 52 * s) I0.1 W
      have d0 : (B_sv (52 * s) h0) 0 11 = v0 := by rw [(B_sv_inv (h := h0) (b := 52 * s)).1 0 (by decide), ← hH0, B_w_same]
      generalize hHB : B_sv (52 * s) h0 = hB at *
      obtain ⟨h3, a1, a2, a3⟩ := wu_years_loop (K := K) (Y := Y) (ev := ev) hN (by omega) N 0 px_F (S, v0, 0, 0) hB (by omega) (px_F_lt (by omega)) ⟨IB.1, IB.2.2.2.2.2.2.1⟩ W d0
      generalize hXX : S_yl ev P T K Y N (S, v0, 0, 0) = XX at *
      obtain ⟨h4, b1, b2, b3⟩ := tl_tell_2 h3 XX.2.2.1 (S_said XX.1 T)
      have WX : R_w P T K Y XX.1 := by rw [← hXX]; exact S_yl_W (by omega) N (S, v0, 0, 0) W
      have R4 : R_c h4 P T K Y XX.1 := a2.sm (b3.mono B_frw_sc).sm_c
      have g41 : h4 41 = hB 41 := by rw [b3.row 41 (fun _ => rfl), a3.row 41 (fun _ => rfl)]
      have g42 : h4 42 = hB 42 := by rw [b3.row 42 (fun _ => rfl), a3.row 42 (fun _ => rfl)]
      have g51 : h4 51 = hB 51 := by rw [b3.row 51 (fun _ => rfl), a3.row 51 (fun _ => rfl)]
      have g66 : h4 66 = hB 66 := by rw [b3.row 66 (fun _ => rfl), a3.row 66 (fun _ => rfl)]
      have u4 : I_us h4 P T K U s := by
        unfold I_us at *
        rw [g41, g42, g51, g66]
        exact uB
      have hun := me_unstage_s u4
      have RL := B_lo_R R4 WX (Z := S) (b := 52 * s) (by rw [g42]; exact QS)
      have eM : B_mix XX.1 S = S := by
        funext a k
        unfold B_mix
        split <;> first | rfl | (rw [← hXX]; exact S_yl_ne (by assumption) (by assumption) (by assumption) (by assumption) N (S, v0, 0, 0))
      rw [eM] at RL
      obtain ⟨l1, -, -⟩ := B_lo_inv (h := h4) (b := 52 * s)
      generalize hH5 : B_lo (52 * s) h4 = h5 at *
      have I5 : I_h h5 P T K Y i n S ev := IB.rc RL (fun a k c1 c2 c3 c4 c5 c6 hp => by
        rw [l1 a c1 c2 c3 c4 c5 c6, b3 a k (by
          cases hq : B_frw a k with
          | false => rfl
          | true =>
            have := B_frw_sc a k hq
            unfold B_sc at this
            rw [hp] at this
            simp at this), a3 a k (E_yy_p hp c1 c3 c5 c6)])
      have r5 : B_rc h5 [XX.2.2.1, S_said XX.1 T] := by
        unfold B_rc at *
        rw [l1 45 (by decide) (by decide) (by decide) (by decide) (by decide) (by decide), l1 46 (by decide) (by decide) (by decide) (by decide) (by decide) (by decide)]
        exact b2
      have M5 : R_m (B_t0 h5) P T K Y S := I5.2.1.sm (B_t0_fr _).sm_d
      have hs : B_sl 78 := Or.inr (Or.inr (Or.inr (Or.inr rfl)))
      generalize hH6 : px_w (B_t0 h5) 51 58 v0 = h6'
      have F6 : B_fr B_sd h5 h6' := by rw [← hH6]; exact (B_t0_fr _).w rfl
      have M6 : R_m h6' P T K Y S := I5.2.1.sm F6.sm_d
      have hlay := mo_lay_t (h := h6') (a0 := 52) (a1 := 78) (Or.inl rfl) hs (by decide)
      have F7 : B_fr B_sd h6' (B_cp h6' (h6' 52) 78 0) := B_cp_fr (fun _ => rfl)
      have A7 : R_a (B_cp h6' (h6' 52) 78 0) 78 P T S := B_cp_A M6.2 h6 h10 78
      have MH : M_h h5 P T K Y S ev := ⟨I5.2.1.1, I5.2.2.2.2.2.2.2⟩
      have e58 : (B_cp h6' (h6' 52) 78 0) 51 58 = v0 := by rw [B_cp_ne (by decide), ← hH6, B_w_same]
      obtain ⟨h8, c1, c2, c3⟩ := mo_years_loop (K := K) (Y := Y) (ev := ev) hN (by omega) N 0 px_F (S, v0, 0, 0) (B_cp h6' (h6' 52) 78 0) (by omega) (px_F_lt (by omega)) (MH.sd (F6.trans F7)) A7 W e58
      rw [hXX] at c1 c2
      refine ⟨XX.2.2.2, h5, h8, ?_, ?_, B_q1 I5 (B_fr.refl _ _) ((F6.trans F7).trans c3) r5 c2 (by simp)⟩
      · rw [hcl, decide_eq_true q, if_pos rfl, if_neg hP, hst, B_bind]
        rw [nI_0] at a1
        rw [a1, b1, B_bind, hun, B_bind]
      · rw [hmo h5 M5, decide_eq_true q, if_pos rfl, if_neg hP, hH6, hlay, B_bind]
        rw [nI_0] at c1
        exact c1
  · refine ⟨-1, h, B_t0 h, ?_, ?_, B_qr I r⟩
    · rw [hcl, decide_eq_false q, if_neg (by decide)]
    · rw [hmo h (M.sm (B_t0_fr _).sm_d), decide_eq_false q, if_neg (by decide)]
end YEARS
