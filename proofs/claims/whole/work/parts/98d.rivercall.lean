/-! Layer B: river, the call -/
section RIVERCALL
variable {i n : Nat} {h : pH} {P T K Y : Nat} {S : pH} {ev : pE}
theorem B_bit_ones {p j : Nat} (hp : p ≤ 6) (hj : j < 32) : B_bit ((nI 1 <<< (nI p &&& 31)) - nI 1) j = decide (j < p) := by
  have hd : ∀ p, p < 7 → ∀ j, j < 32 → B_bit ((nI 1 <<< (nI p &&& 31)) - nI 1) j = decide (j < p) := by decide +kernel
  exact hd p (by omega) j hj
theorem S_isl0 (W : R_w P T K Y S) : (((((nI 1 <<< (nI P &&& 31)) - nI 1) &&& (S_at S P 0 ^^^ -1)) &&& (S_at S P (nI 1) ^^^ -1)) = 0) = (∀ p, p < P → S 1 p = 0 ∨ S 1 p = nI 1) := by
  have h6 := W.1
  have hb : ∀ j, j < 32 → B_bit ((((nI 1 <<< (nI P &&& 31)) - nI 1) &&& (S_at S P 0 ^^^ -1)) &&& (S_at S P (nI 1) ^^^ -1)) j = (decide (j < P) && !(decide (S 1 j = 0)) && !(decide (S 1 j = nI 1))) := fun j hj => by
    rw [B_bit_and, B_bit_and, B_bit_ones h6 hj, B_bit_not _ hj, B_bit_not _ hj, S_at_bit h6 hj, S_at_bit h6 hj]
    cases decide (j < P) <;> simp
  refine propext ⟨fun e p hp => ?_, fun e => ?_⟩
  · have := hb p (by omega)
    rw [e, B_bit_0, decide_eq_true hp] at this
    by_cases q : S 1 p = 0
    · exact Or.inl q
    · by_cases w : S 1 p = nI 1
      · exact Or.inr w
      · simp [q, w] at this
  · refine B_ext (fun j hj => ?_)
    rw [hb j hj, B_bit_0]
    by_cases q : j < P
    · rcases e j q with w | w <;> simp [w]
    · simp [q]
theorem mo_river_26_s (h6 : P ≤ 6) (hP : h 51 4 = nI P) (h52 : ∀ p, p < P → ∃ f, f < 7 ∧ h 52 p = nI f) : ∀ (m j n' : Nat), j + m = P → m < n' → ((∀ p, j ≤ p → p < P → h 52 p = 0 ∨ h 52 p = nI 1) → mo_river_26 n' (nI j) h = px_bind (mo_number_ (nI 2) (nI 60) h) fun z1 h2 => mo_river_63 px_F z1 0 h2) ∧ (¬ (∀ p, j ≤ p → p < P → h 52 p = 0 ∨ h 52 p = nI 1) → mo_river_26 n' (nI j) h = some (-100, h)) := by
  intro m
  induction m with
  | zero =>
    intro j n' hj hn
    obtain ⟨n', rfl⟩ : ∃ n'', n' = n'' + 1 := ⟨n' - 1, by omega⟩
    refine ⟨fun _ => ?_, fun w => absurd (fun p h1 h2 => absurd h1 (by omega)) w⟩
    show (if h 51 4 ≤ nI j then _ else _) = _
    rw [hP, if_pos (nI_le (by omega) (by omega)), bc_2, bc_60, bc_0]
  | succ m ih =>
    intro j n' hj hn
    obtain ⟨n', rfl⟩ : ∃ n'', n' = n'' + 1 := ⟨n' - 1, by omega⟩
    obtain ⟨i1, i2⟩ := ih (j + 1) n' (by omega) (by omega)
    obtain ⟨f, hf, ef⟩ := h52 j (by omega)
    have hz : mo_river_26 (n' + 1) (nI j) h = if f ≤ 1 then mo_river_26 n' (nI (j + 1)) h else some (-100, h) := by
      show (if h 51 4 ≤ nI j then _ else px_if (px_ok 0 52 (nI j)) _) = _
      rw [hP, if_neg (nI_ge (by omega) (by omega)), po_52 (by omega), B_ift, nI_clamp (by omega), ef, bc_1, nI_add, bc_m100]
      by_cases q : f ≤ 1
      · rw [if_pos q, if_pos (nI_le q (by omega))]
      · rw [if_neg q, if_neg (nI_ge (by omega) (by omega))]
    have hfj : (h 52 j = 0 ∨ h 52 j = nI 1) ↔ f ≤ 1 := by
      rw [ef, ← nI_0]
      constructor
      · intro q
        rcases q with q | q
        · have := (nI_eq (by omega) (by omega)).mp q
          omega
        · have := (nI_eq (by omega) (by omega)).mp q
          omega
      · intro q
        have : f = 0 ∨ f = 1 := by omega
        rcases this with rfl | rfl
        · exact Or.inl rfl
        · exact Or.inr rfl
    rw [hz]
    by_cases q : f ≤ 1
    · rw [if_pos q]
      refine ⟨fun w => i1 (fun p h1 h2 => w p (by omega) h2), fun w => i2 (fun w2 => w (fun p h1 h2 => ?_))⟩
      by_cases e : p = j
      · rw [e]
        exact hfj.mpr q
      · exact w2 p (by omega) h2
    · rw [if_neg q]
      refine ⟨fun w => absurd (hfj.mp (w j (Nat.le_refl _) (by omega))) q, fun _ => rfl⟩
def E_cut : Nat → Nat → Bool := fun a _ => Nat.beq a 1 || Nat.beq a 16
theorem S_ra_lt (x : Nat × Option Nat × (Nat → Nat)) (h1 : x.1 ≤ 5) (h2 : ∀ f, x.2.1 = some f → f ≤ 80) : (S_ra x < 0) = (¬ x.2.1 = none) := by
  unfold S_ra
  cases hx : x.2.1 with
  | none => exact propext ⟨fun w => absurd w (nI_pos (by omega)), fun w => absurd rfl w⟩
  | some f =>
    have hd : ∀ f, f < 81 → ((-1 : Int32) - nI f < 0) := by decide
    exact propext ⟨fun _ => (fun w => by cases w), fun _ => hd f (by have := h2 f hx; omega)⟩
theorem E_rvf_sc1 : ∀ a k, E_rvf a k = true → B_sc1 a k = true := fun a k e => by
  unfold E_rvf at e
  split at e
  · rfl
  · rfl
  · cases e
theorem E_rmf_sd1 : ∀ a k, E_rmf a k = true → B_sd1 a k = true := fun a k e => by
  unfold E_rmf at e
  split at e
  · have : k = 18 ∨ k = 19 := by simpa using e
    rcases this with rfl | rfl <;> rfl
  · rfl
  · cases e
/-- the reference's reader is set -/
def M_bg (h : pH) (n most : Nat) : pH := px_w (px_w (px_w (px_w (px_w (px_w (B_t0 h) 51 15 (nI 58)) 51 16 (nI n)) 51 17 (nI most)) 51 18 0) 51 19 (-1)) 51 11 0
theorem M_bg_fr (h : pH) (n most : Nat) : B_fr B_sd1 h (M_bg h n most) := ((((((B_t0_fr h).mono B_sd_1).w rfl).w rfl).w rfl).w rfl).w rfl |>.w rfl
theorem M_bg_row (h : pH) (n most : Nat) {a : Nat} (ha : a ≠ 51) : M_bg h n most a = h a := by
  unfold M_bg
  rw [B_w_cell _ _ _ ha, B_w_cell _ _ _ ha, B_w_cell _ _ _ ha, B_w_cell _ _ _ ha, B_w_cell _ _ _ ha, B_w_cell _ _ _ ha, B_t0_row _ ha]
theorem M_bg_rd {sg : Nat → Nat} {most : Nat} (e : ∀ j, j < n → h 58 j = B_byte (sg j)) : M_rd (M_bg h n most) n most 0 sg none := by
  unfold M_bg
  exact ⟨by rw [B_w_at, if_neg (by decide), B_w_at, if_neg (by decide), B_w_at, if_neg (by decide), B_w_at, if_neg (by decide), B_w_at, if_neg (by decide), B_w_same], by rw [B_w_at, if_neg (by decide), B_w_at, if_neg (by decide), B_w_at, if_neg (by decide), B_w_at, if_neg (by decide), B_w_same], by rw [B_w_at, if_neg (by decide), B_w_at, if_neg (by decide), B_w_at, if_neg (by decide), B_w_same], by rw [B_w_at, if_neg (by decide), B_w_at, if_neg (by decide), B_w_same, nI_0], by rw [B_w_at, if_neg (by decide), B_w_same]; rfl, fun j hj => by rw [B_w_cell _ _ _ (by decide), B_w_cell _ _ _ (by decide), B_w_cell _ _ _ (by decide), B_w_cell _ _ _ (by decide), B_w_cell _ _ _ (by decide), B_w_cell _ _ _ (by decide), B_t0_row _ (by decide)]; exact e j hj⟩
theorem mo_begin_s {most : Nat} (e : h 51 11 = nI n) : (px_bind (mo_begin 58 ((B_t0 h) 51 11) (nI most) (B_t0 h)) fun _ h3 => some ((0 : Int32), px_w h3 51 11 (px_c 0))) = some (0, M_bg h n most) := by
  unfold mo_begin mo_begin_10 mo_begin_20 M_bg
  rw [show (Nat.blt 58 px_N && Nat.beq (px_tag 58) 1) = true by decide, B_ift, B_t0_at _ (by decide), e, bc_0, bc_m1]
  rfl
theorem S_rv_f {sg : Nat → Nat} (hn : n ≤ 80) : (S_rv sg n).2.1 ≤ 5 ∧ ∀ f, (S_rv sg n).2.2.1 = some f → f ≤ 80 := by
  have hcnt : ∀ (d c p k y : Nat) (v : Nat → Nat), c + d = 5 → (S_rl sg n y d c p k v).1 ≤ 5 := by
    intro d
    induction d with
    | zero => intro c p k y v hc; show c ≤ 5; omega
    | succ d ih =>
      intro c p k y v hc
      unfold S_rl
      split
      · split
        · show c ≤ 5
          omega
        · exact ih _ _ _ _ _ (by omega)
      · show c ≤ 5
        omega
  unfold S_rv
  cases hf : (S_nm sg n 2 60 0).2.2 with
  | some f =>
    refine ⟨by show 0 ≤ 5; omega, fun f' e => ?_⟩
    cases e
    have := S_nm_f (by omega) hf
    omega
  | none =>
    refine ⟨hcnt 5 0 0 _ _ _ rfl, fun f' e => ?_⟩
    have := S_rl_f _ _ _ _ _ f' (S_nm_le (by omega)).2 e
    omega
/-- the state after a good river -/
def S_nr (S : pH) (v : Nat → Nat) : pH := fun a k => if a = 10 then nI (v k) else S a k
theorem S_nr_W {K2 Y2 : Nat} {v : Nat → Nat} (W : R_w P T K Y S) (hz : ∀ p, p < P → S 1 p = 0 ∨ S 1 p = nI 1) (hK : K2 ≤ 5) (hY : 2 ≤ Y2) (hY2 : Y2 ≤ 60) (h1 : ∀ j, j < K2 → 1 ≤ v j ∧ v j < Y2) (h2 : ∀ j, j < K2 → ∀ i, i < j → v i < v j) : R_w P T K2 Y2 (S_nr S v) := by
  obtain ⟨h6, h10, h5, hY2', hY60, w0, w1, w2, w4, w6, w7, w8, w9, w10, w11⟩ := W
  have e : ∀ a k, a ≠ 10 → S_nr S v a k = S a k := fun a k ha => if_neg ha
  have e10 : ∀ k, S_nr S v 10 k = nI (v k) := fun k => if_pos rfl
  refine ⟨h6, h10, hK, hY, hY2, ?_, ?_, ?_, ?_, ?_, ?_, ?_, ?_, ?_, ?_⟩
  · intro p hp; rw [e 0 p (by decide)]; exact w0 p hp
  · intro p hp
    rw [e 1 p (by decide)]
    rcases hz p hp with q | q
    · exact ⟨0, by omega, by rw [q, nI_0]⟩
    · exact ⟨1, by omega, q⟩
  · intro p hp; rw [e 2 p (by decide)]; exact w2 p hp
  · intro p hp; rw [e 4 p (by decide)]; exact w4 p hp
  · intro p hp; rw [e 6 p (by decide)]; exact w6 p hp
  · intro p hp; rw [e 7 p (by decide)]; exact w7 p hp
  · intro p hp; rw [e 8 p (by decide)]; exact w8 p hp
  · intro p hp; rw [e 9 p (by decide), e 6 p (by decide)]; exact w9 p hp
  · intro k hk
    rw [e10 k]
    exact ⟨v k, (h1 k hk).1, (h1 k hk).2, rfl⟩
  · intro k hk j hj
    rw [e10 k, e10 j, B_n_nI (by have := (h1 j (by omega)).2; omega), B_n_nI (by have := (h1 k hk).2; omega)]
    exact h2 k hk j hj
theorem B_river (hI : Inv i h) : ∃ r h1 h2, wu_river h = some (r, h1) ∧ mo_river h1 = some (r, h2) ∧ Inv (i + 5) h2 := by
  obtain ⟨P, T, K, Y, n, S, ev, I, r⟩ := hI
  obtain ⟨R, M, W, X, V, E, L⟩ := id I
  have h6 := W.1
  have h5 := W.2.2.1
  have h10 := W.2.1
  obtain ⟨sg1, sg2, sg3⟩ := X.sg
  have hn := X.1
  have hisl := S_isl0 W
  have hon := hs_onIslets_s R W
  have ecut : ∀ hh : pH, hh 1 1 = nI n → tx_cut (px_c 0) hh = some (nI 1, px_w hh 1 1 0) := fun hh e => by
    unfold tx_cut
    rw [bc_0, if_neg (by decide), e, if_pos (nI_pos' (by omega)), bc_1, B_bz1]
  -- the reference, from whatever the class left
  have hmo : ∀ hh : pH, (∀ a, 51 ≤ a → hh a = h a) → mo_river hh = mo_river_26 px_F (nI 0) (M_bg hh n 80) := fun hh e => by
    have := mo_begin_s (h := hh) (n := n) (most := 80) (by rw [e 51 (by omega)]; exact X.2.2.1)
    unfold mo_river mo_river_24
    rw [bc_80, bc_0]
    show px_bind (mo_begin 58 ((B_t0 hh) 51 11) (nI 80) (B_t0 hh)) _ = _
    rw [bc_0] at this
    cases hb : mo_begin 58 ((B_t0 hh) 51 11) (nI 80) (B_t0 hh) with
    | none =>
      rw [hb] at this
      cases this
    | some x =>
      rw [hb] at this
      have h2 : px_w x.2 51 11 0 = M_bg hh n 80 := congrArg Prod.snd (Option.some.inj this)
      show mo_river_26 px_F 0 (px_w x.2 51 11 0) = _
      rw [h2, nI_0]
  have hbg : ∀ hh : pH, (∀ a, 51 ≤ a → hh a = h a) → (M_bg hh n 80) 51 4 = nI P ∧ ∀ p, p < P → (M_bg hh n 80) 52 p = S 1 p := fun hh e => by
    have F := M_bg_fr hh n 80
    exact ⟨by rw [F 51 4 rfl, e 51 (by omega)]; exact M.1.1, fun p hp => by rw [F 52 p rfl, e 52 (by omega)]; exact M.2.1 p hp⟩
  have hb7 : ∀ hh : pH, (∀ a, 51 ≤ a → hh a = h a) → ∀ p, p < P → ∃ f, f < 7 ∧ (M_bg hh n 80) 52 p = nI f := fun hh e p hp => by
    obtain ⟨f, hf, ef⟩ := W.2.2.2.2.2.2.1 p hp
    exact ⟨f, by omega, by rw [(hbg hh e).2 p hp, ef]⟩
  by_cases hz : ∀ p, p < P → S 1 p = 0 ∨ S 1 p = nI 1
  · obtain ⟨h3, a1, a2, a3, a4⟩ := rv_read_s hn sg2 X.2.1 sg1
    have hcn := S_rv_f (sg := B_sg h) hn
    have e11 : h3 1 1 = nI n := by rw [a3 1 1 rfl, X.2.1]
    have hcl0 : wu_river h = if S_ra (S_rv (B_sg h) n).2 < 0 then some (S_ra (S_rv (B_sg h) n).2, px_w h3 1 1 0) else some (S_ra (S_rv (B_sg h) n).2, px_w (px_w (px_w h3 1 1 0) 41 2 0) 41 1 0) := by
      unfold wu_river wu_river_26 wu_river_47
      rw [hon, B_bind, if_pos (by rw [hisl]; exact hz), a1, B_bind, ecut h3 e11, B_bind]
      unfold me_forgetAll
      rw [bc_0]
      rfl
    have hlt := S_ra_lt (S_rv (B_sg h) n).2 hcn.1 hcn.2
    by_cases hf : (S_rv (B_sg h) n).2.2.1 = none
    · rw [if_neg (fun w => by rw [hlt] at w; exact w hf)] at hcl0
      obtain ⟨b1, b2, b3⟩ := a2 hf
      generalize hH1 : px_w (px_w (px_w h3 1 1 0) 41 2 0) 41 1 0 = h1 at hcl0
      have k1 : ∀ a, a ≠ 1 → a ≠ 41 → h1 a = h3 a := fun a x1 x2 => by rw [← hH1, B_w_cell _ _ _ x2, B_w_cell _ _ _ x2, B_w_cell _ _ _ x1]
      have k3 : ∀ a, a ≠ 1 → a ≠ 14 → a ≠ 15 → a ≠ 16 → h3 a = h a := fun a x1 x2 x3 x4 => a3.row a (fun k => by
        unfold E_rvc
        split
        · exact absurd rfl x1
        · exact absurd rfl x2
        · exact absurd rfl x3
        · exact absurd rfl x4
        · rfl)
      have f51 : ∀ a, 51 ≤ a → h1 a = h a := fun a ha => by rw [k1 a (by omega) (by omega), k3 a (by omega) (by omega) (by omega) (by omega)]
      have h41_3 : h1 41 3 = h 41 3 := by rw [← hH1, B_w_at, if_neg (by decide), B_w_at, if_neg (by decide), B_w_cell _ _ _ (by decide), k3 41 (by decide) (by decide) (by decide) (by decide)]
      have h41_2 : h1 41 2 = 0 := by rw [← hH1, B_w_at, if_neg (by decide), B_w_same]
      have h41_1 : h1 41 1 = 0 := by rw [← hH1, B_w_same]
      have h11 : h1 1 1 = 0 := by rw [← hH1, B_w_cell _ _ _ (by decide), B_w_cell _ _ _ (by decide), B_w_same]
      obtain ⟨hbP, hb52⟩ := hbg h1 f51
      obtain ⟨c1, -⟩ := mo_river_26_s h6 hbP (hb7 h1 f51) P 0 px_F (by omega) (px_F_lt (by omega))
      have hm := c1 (fun p _ hp => by rw [hb52 p hp]; exact hz p hp)
      have F0 := M_bg_fr h1 n 80
      have MR := M_bg_rd (h := h1) (n := n) (sg := B_sg h) (most := 80) (fun j hj => by rw [f51 58 (by decide)]; exact sg3 j hj)
      obtain ⟨z, h4, d1, d2, d3, d4⟩ := mo_number_s (lo := 2) (hi := 60) MR hn (by decide) (by omega) sg2 (by omega) (by omega)
      rw [Nat.min_eq_left hn] at d2 d3
      -- the number is good, and the islets
      have hnm : (S_nm (B_sg h) n 2 60 0).2.2 = none := by
        cases hq : (S_nm (B_sg h) n 2 60 0).2.2 with
        | none => rfl
        | some f =>
          unfold S_rv at hf
          rw [hq] at hf
          cases hf
      have erv : S_rv (B_sg h) n = ((S_nm (B_sg h) n 2 60 0).1, S_rl (B_sg h) n (S_nm (B_sg h) n 2 60 0).1 5 0 0 (S_nm (B_sg h) n 2 60 0).2.1 (fun _ => 0)) := by
        unfold S_rv
        rw [hnm]
      have hv := S_nm_ok hnm
      have hle := S_nm_le (sg := B_sg h) (lo := 2) (hi := 60) (show 0 ≤ n by omega)
      have hzz := d2 hnm
      rw [hnm] at d3
      rw [erv] at hf b1 b2 b3 hcl0
      generalize S_nm (B_sg h) n 2 60 0 = z0 at *
      obtain ⟨h7, g1, g2, g3, -⟩ := mo_river_63_s hn sg2 hv.1 hv.2 5 0 0 z0.2.1 px_F (fun _ => 0) h4 (by omega) (px_F_lt (by omega)) hle.2 (by omega) (fun _ => rfl) (fun w => absurd w (by omega)) d3 (fun j hj => absurd hj (by omega))
      obtain ⟨hc5, hv1, hv2⟩ := S_rl_ok (sg := B_sg h) (n := n) (y := z0.1) 5 0 0 z0.2.1 (fun _ => 0) (fun j hj => absurd hj (by omega)) (fun j hj => absurd hj (by omega)) (fun w => absurd w (by omega)) hf
      have g2' := g2 hf
      generalize S_rl (B_sg h) n z0.1 5 0 0 z0.2.1 (fun _ => 0) = X0 at *
      obtain ⟨u1, u2, u3, u4, u5⟩ := g2'
      -- what the reference left
      have t51 : ∀ k, k ≠ 1 → k ≠ 2 → k ≠ 11 → k ≠ 14 → k ≠ 15 → k ≠ 16 → k ≠ 17 → k ≠ 18 → k ≠ 19 → k ≠ 35 → k ≠ 60 → h7 51 k = h 51 k := fun k x1 x2 x3 x4 x5 x6 x7 x8 x9 x10 x11 => by
        rw [g3 51 k (by
          show [1, 2, 18, 19, 35, 60].contains k = false
          simp [x1, x2, x8, x9, x10, x11]), d4 51 k (by
          show [18, 19].contains k = false
          simp [x8, x9])]
        unfold M_bg
        rw [B_w_at, if_neg x3, B_w_at, if_neg x9, B_w_at, if_neg x8, B_w_at, if_neg x7, B_w_at, if_neg x6, B_w_at, if_neg x5, B_t0_at _ x4, f51 51 (by decide)]
      have tr : ∀ a, a ≠ 51 → a ≠ 53 → a ≠ 60 → h7 a = h1 a := fun a x1 x2 x3 => by
        rw [g3.row a (fun k => by
          unfold E_rm
          split
          · exact absurd rfl x1
          · exact absurd rfl x2
          · exact absurd rfl x3
          · rfl), d4.row a (fun k => by
          unfold E_mx
          split
          · exact absurd rfl x1
          · rfl)]
        unfold M_bg
        rw [B_w_cell _ _ _ x1, B_w_cell _ _ _ x1, B_w_cell _ _ _ x1, B_w_cell _ _ _ x1, B_w_cell _ _ _ x1, B_w_cell _ _ _ x1, B_t0_row _ x1]
      have t60 : h7 51 60 = h 51 60 + nI 1 := by
        rw [u5, d4 51 60 rfl]
        unfold M_bg
        rw [B_w_at, if_neg (by decide), B_w_at, if_neg (by decide), B_w_at, if_neg (by decide), B_w_at, if_neg (by decide), B_w_at, if_neg (by decide), B_w_at, if_neg (by decide), B_t0_at _ (by decide), f51 51 (by decide)]
      have t11 : h7 51 11 = 0 := by
        rw [g3 51 11 rfl, d4 51 11 rfl]
        unfold M_bg
        rw [B_w_same]
      have kc : ∀ a, a < 51 → a ≠ 1 → a ≠ 14 → a ≠ 15 → a ≠ 16 → a ≠ 41 → h7 a = h a := fun a x0 x1 x2 x3 x4 x5 => by rw [tr a (by omega) (by omega) (by omega), k1 a x1 x5, k3 a x1 x2 x3 x4]
      have km : ∀ a, 51 < a → a ≠ 53 → a ≠ 60 → h7 a = h a := fun a x0 x1 x2 => by rw [tr a (by omega) x1 x2, f51 a (by omega)]
      have k14 : h7 14 = h3 14 := by rw [tr 14 (by decide) (by decide) (by decide), k1 14 (by decide) (by decide)]
      have k15 : h7 15 = h3 15 := by rw [tr 15 (by decide) (by decide) (by decide), k1 15 (by decide) (by decide)]
      have k41 : h7 41 = h1 41 := tr 41 (by decide) (by decide) (by decide)
      have e0 : ∀ a k, a ≠ 10 → S_nr S X0.2.2 a k = S a k := fun a k ha => if_neg ha
      have e10 : ∀ k, S_nr S X0.2.2 10 k = nI (X0.2.2 k) := fun k => if_pos rfl
      refine ⟨S_ra X0, h1, h7, hcl0, ?_, P, T, X0.1, z0.1, 0, S_nr S X0.2.2, ev, ⟨?_, ⟨?_, ?_⟩, ?_, ?_, ?_, ?_, ?_⟩, ?_⟩
      · rw [hmo h1 f51, hm, d1, B_bind, hzz, ← nI_0]
        exact g1
      · obtain ⟨q0, q1, q2, q3, q4, q5', q6, q7, q8, q9, q10, q11, q12, q13, q14⟩ := R
        exact ⟨by rw [kc 3 (by decide) (by decide) (by decide) (by decide) (by decide) (by decide), q0], by rw [kc 3 (by decide) (by decide) (by decide) (by decide) (by decide) (by decide), q1], by rw [k14, b2], by rw [k14, b1], fun k hk => by rw [kc 4 (by decide) (by decide) (by decide) (by decide) (by decide) (by decide), e0 0 k (by decide)]; exact q4 k hk, fun k hk => by rw [kc 5 (by decide) (by decide) (by decide) (by decide) (by decide) (by decide), e0 1 k (by decide)]; exact q5' k hk, fun k hk => by rw [kc 6 (by decide) (by decide) (by decide) (by decide) (by decide) (by decide), e0 2 k (by decide)]; exact q6 k hk, fun k hk => by rw [kc 7 (by decide) (by decide) (by decide) (by decide) (by decide) (by decide), e0 3 k (by decide)]; exact q7 k hk, fun k hk => by rw [kc 8 (by decide) (by decide) (by decide) (by decide) (by decide) (by decide), e0 4 k (by decide)]; exact q8 k hk, fun k hk => by rw [kc 9 (by decide) (by decide) (by decide) (by decide) (by decide) (by decide), e0 5 k (by decide)]; exact q9 k hk, fun k hk => by rw [kc 10 (by decide) (by decide) (by decide) (by decide) (by decide) (by decide), e0 6 k (by decide)]; exact q10 k hk, fun k hk => by rw [kc 11 (by decide) (by decide) (by decide) (by decide) (by decide) (by decide), e0 7 k (by decide)]; exact q11 k hk, fun k hk => by rw [kc 12 (by decide) (by decide) (by decide) (by decide) (by decide) (by decide), e0 8 k (by decide)]; exact q12 k hk, fun k hk => by rw [kc 13 (by decide) (by decide) (by decide) (by decide) (by decide) (by decide), e0 9 k (by decide)]; exact q13 k hk, fun k hk => by rw [k15, e10 k]; exact b3 k hk⟩
      · obtain ⟨m0, m1, m2, m3, m4, m5, m6, m7, m8⟩ := M.1
        exact ⟨by rw [t51 4 (by decide) (by decide) (by decide) (by decide) (by decide) (by decide) (by decide) (by decide) (by decide) (by decide) (by decide), m0], by rw [t51 6 (by decide) (by decide) (by decide) (by decide) (by decide) (by decide) (by decide) (by decide) (by decide) (by decide) (by decide), m1], u2, u1, fun k hk => by rw [km 54 (by decide) (by decide) (by decide), e0 0 k (by decide)]; exact m4 k hk, fun k hk => by rw [km 55 (by decide) (by decide) (by decide), e0 3 k (by decide)]; exact m5 k hk, fun k hk => by rw [km 56 (by decide) (by decide) (by decide), e0 5 k (by decide)]; exact m6 k hk, fun k hk => by rw [km 57 (by decide) (by decide) (by decide), e0 7 k (by decide)]; exact m7 k hk, fun k hk => by rw [e10 k]; exact u3 k hk⟩
      · obtain ⟨m1, m2, m4, m8, m6, m9⟩ := M.2.cell (h' := h7) (km 52 (by decide) (by decide) (by decide))
        exact ⟨fun k hk => by rw [m1 k hk, e0 1 k (by decide)], fun k hk => by rw [m2 k hk, e0 2 k (by decide)], fun k hk => by rw [m4 k hk, e0 4 k (by decide)], fun k hk => by rw [m8 k hk, e0 8 k (by decide)], fun k hk => by rw [m6 k hk, e0 6 k (by decide)], fun k hk => by rw [m9 k hk, e0 9 k (by decide)]⟩
      · exact S_nr_W W hz (by omega) hv.1 hv.2 hv1 hv2
      · exact ⟨by omega, by rw [tr 1 (by decide) (by decide) (by decide), h11, nI_0], by rw [t11, nI_0], fun k hk => absurd hk (by omega)⟩
      · obtain ⟨U, s, y1, y2, y3, y4, y5, y6⟩ := V
        exact ⟨0, s, by omega, y2, by rw [k41, h41_2, nI_0], by rw [k41, h41_3, y4], by rw [u4, nI_0], fun j hj => absurd hj (by omega)⟩
      · obtain ⟨c, x1, x2, x3⟩ := E
        refine ⟨c + 1, by omega, by rw [t60, x2, nI_add], fun q hq => ?_⟩
        obtain ⟨x4, x5⟩ := x3 q hq
        rw [k41, h41_1, B_bit_0, km 80 (by decide) (by decide) (by decide), km 81 (by decide) (by decide) (by decide)]
        refine ⟨x4, ?_⟩
        rw [if_neg (by decide)]
        by_cases w : B_bit (h 41 1) q = true
        · rw [if_pos w] at x5
          exact Or.inr ⟨c, by omega, x5.2.1⟩
        · rw [if_neg w] at x5
          rcases x5 with x5 | ⟨d, x6, x7⟩
          · exact Or.inl x5
          · exact Or.inr ⟨d, by omega, x7⟩
      · unfold I_rul at *
        rw [kc 17 (by decide) (by decide) (by decide) (by decide) (by decide) (by decide), kc 18 (by decide) (by decide) (by decide) (by decide) (by decide) (by decide), t51 26 (by decide) (by decide) (by decide) (by decide) (by decide) (by decide) (by decide) (by decide) (by decide) (by decide) (by decide), km 63 (by decide) (by decide) (by decide)]
        exact L
      · exact r.sm (by rw [kc 45 (by decide) (by decide) (by decide) (by decide) (by decide) (by decide)]) (kc 46 (by decide) (by decide) (by decide) (by decide) (by decide) (by decide)) (t51 13 (by decide) (by decide) (by decide) (by decide) (by decide) (by decide) (by decide) (by decide) (by decide) (by decide) (by decide)) (km 59 (by decide) (by decide) (by decide))
    · rw [if_pos (by rw [hlt]; exact hf)] at hcl0
      have F1 : B_fr B_sc1 h (px_w h3 1 1 0) := ((a4 hf).mono E_rvf_sc1).w rfl
      have f51 : ∀ a, 51 ≤ a → (px_w h3 1 1 0) a = h a := fun a ha => funext fun k => B_sc1_m F1 ha
      generalize hH1 : px_w h3 1 1 0 = h1 at *
      obtain ⟨hbP, hb52⟩ := hbg h1 f51
      obtain ⟨c1, -⟩ := mo_river_26_s h6 hbP (hb7 h1 f51) P 0 px_F (by omega) (px_F_lt (by omega))
      have hm := c1 (fun p _ hp => by rw [hb52 p hp]; exact hz p hp)
      have F0 := M_bg_fr h1 n 80
      have MR := M_bg_rd (h := h1) (n := n) (sg := B_sg h) (most := 80) (fun j hj => by rw [f51 58 (by decide)]; exact sg3 j hj)
      obtain ⟨z, h4, d1, d2, d3, d4⟩ := mo_number_s (lo := 2) (hi := 60) MR hn (by decide) (by omega) sg2 (by omega) (by omega)
      rw [Nat.min_eq_left hn] at d2 d3
      have hg : ∃ h7, mo_river_63 px_F z 0 h4 = some (S_ra (S_rv (B_sg h) n).2, h7) ∧ B_fr E_rmf h4 h7 := by
        cases hq : (S_nm (B_sg h) n 2 60 0).2.2 with
        | some f =>
          have hfn := S_nm_f (by omega) hq
          rw [hq] at d3
          obtain ⟨F, hF⟩ : ∃ F, px_F = F + 1 := ⟨px_F - 1, by have : 100 < px_F := px_F_lt (by omega); omega⟩
          refine ⟨h4, ?_, B_fr.refl _ _⟩
          rw [hF, mo_river_63_f (by omega) d3]
          unfold S_rv
          rw [hq]
          rfl
        | none =>
          have hv := S_nm_ok hq
          have hle := S_nm_le (sg := B_sg h) (lo := 2) (hi := 60) (show 0 ≤ n by omega)
          have hzz := d2 hq
          rw [hq] at d3
          have erv : S_rv (B_sg h) n = ((S_nm (B_sg h) n 2 60 0).1, S_rl (B_sg h) n (S_nm (B_sg h) n 2 60 0).1 5 0 0 (S_nm (B_sg h) n 2 60 0).2.1 (fun _ => 0)) := by
            unfold S_rv
            rw [hq]
          rw [erv] at hf ⊢
          generalize S_nm (B_sg h) n 2 60 0 = z0 at *
          obtain ⟨h7, g1, -, -, g4⟩ := mo_river_63_s hn sg2 hv.1 hv.2 5 0 0 z0.2.1 px_F (fun _ => 0) h4 (by omega) (px_F_lt (by omega)) hle.2 (by omega) (fun _ => rfl) (fun w => absurd w (by omega)) d3 (fun j hj => absurd hj (by omega))
          rw [hzz, ← nI_0]
          exact ⟨h7, g1, g4 hf⟩
      obtain ⟨h7, g1, g2⟩ := hg
      have FY : B_fr B_sd1 h1 h7 := (F0.trans (d4.mono (fun a k e => E_rmf_sd1 a k (E_mx_rmf a k e)))).trans (g2.mono E_rmf_sd1)
      refine ⟨S_ra (S_rv (B_sg h) n).2, h1, h7, hcl0, ?_, B_rd0 I r F1 FY ?_ ?_ ?_ ?_ ?_ ?_⟩
      · rw [hmo h1 f51, hm, d1, B_bind]
        exact g1
      · rw [← hH1, B_w_same]
      · rw [g2 51 11 rfl, d4 51 11 rfl]
        unfold M_bg
        rw [B_w_same]
      · rw [← hH1, B_w_cell _ _ _ (by decide), a3 45 1 rfl]
      · rw [← hH1, B_w_cell _ _ _ (by decide), a3.row 46 (fun _ => rfl)]
      · rw [g2 51 13 rfl, d4 51 13 rfl]
        unfold M_bg
        rw [B_w_at, if_neg (by decide), B_w_at, if_neg (by decide), B_w_at, if_neg (by decide), B_w_at, if_neg (by decide), B_w_at, if_neg (by decide), B_w_at, if_neg (by decide), B_t0_at _ (by decide)]
      · rw [g2.row 59 (fun _ => rfl), d4.row 59 (fun _ => rfl), M_bg_row h1 n 80 (show 59 ≠ 51 by decide)]
  · have F1 : B_fr B_sc1 h (px_w h 1 1 0) := (B_fr.refl _ h).w rfl
    have f51 : ∀ a, 51 ≤ a → (px_w h 1 1 0) a = h a := fun a ha => funext fun k => B_sc1_m F1 ha
    have hcl0 : wu_river h = some (-100, px_w h 1 1 0) := by
      unfold wu_river wu_river_26 wu_river_47
      rw [hon, B_bind, if_neg (fun w => hz (by rw [hisl] at w; exact w)), ecut h X.2.1, B_bind, bc_m100, if_pos (by decide)]
    generalize hH1 : px_w h 1 1 0 = h1 at *
    obtain ⟨hbP, hb52⟩ := hbg h1 f51
    obtain ⟨-, c1⟩ := mo_river_26_s h6 hbP (hb7 h1 f51) P 0 px_F (by omega) (px_F_lt (by omega))
    have hm := c1 (fun w => hz (fun p hp => by
      have := w p (by omega) hp
      rw [hb52 p hp] at this
      exact this))
    have F0 := M_bg_fr h1 n 80
    refine ⟨-100, h1, M_bg h1 n 80, hcl0, ?_, B_rd0 I r F1 F0 ?_ ?_ ?_ ?_ ?_ ?_⟩
    · rw [hmo h1 f51]
      exact hm
    · rw [← hH1, B_w_same]
    · unfold M_bg
      rw [B_w_same]
    · rw [← hH1, B_w_cell _ _ _ (by decide)]
    · rw [← hH1, B_w_cell _ _ _ (by decide)]
    · unfold M_bg
      rw [B_w_at, if_neg (by decide), B_w_at, if_neg (by decide), B_w_at, if_neg (by decide), B_w_at, if_neg (by decide), B_w_at, if_neg (by decide), B_w_at, if_neg (by decide), B_t0_at _ (by decide)]
    · exact M_bg_row h1 n 80 (by decide)
end RIVERCALL
