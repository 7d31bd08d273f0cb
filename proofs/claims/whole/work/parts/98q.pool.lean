/-! Layer B: pool -/
def E_p : Nat → Nat → Bool := fun a k => match a with
  | 22 => true
  | a => E_w a k
theorem E_w_p : ∀ a k, E_w a k = true → E_p a k = true := fun a k e => by
  unfold E_p
  split
  · rfl
  · exact e
theorem E_p_sc : ∀ a k, E_p a k = true → B_sc a k = true := fun a k e => by
  unfold E_p at e
  split at e
  · rfl
  · exact E_w_sc a k e
theorem B_ld_p (h : pH) (ab st bk yd : Int32) : B_fr E_p h (B_ld h ab st bk yd) := (((((B_fr.refl _ h).w rfl).w rfl).w rfl).w rfl).w rfl
section POOL
variable {i : Nat} {h : pH} {P T K Y D p b f n : Nat} {S Z : pH} {ev : pE} {ab : Int32} {r : List Nat}
theorem M_h.frz {h' : pH} (M : M_h h P T K Y Z ev) (x : B_fr E_z h h') : M_h h' P T K Y Z ev := by
  obtain ⟨R, E⟩ := M
  refine ⟨?_, ?_⟩
  · unfold R_k at *
    rw [x 51 4 rfl, x 51 6 rfl, x 51 2 rfl, x 51 1 rfl, x.row 54 (fun _ => rfl), x.row 55 (fun _ => rfl), x.row 56 (fun _ => rfl), x.row 57 (fun _ => rfl), x.row 53 (fun _ => rfl)]
    exact R
  · rw [x 51 26 rfl, x.row 63 (fun _ => rfl)]
    exact E
theorem Z_sh_le {m : Nat} (hm : m ≤ 3) : (Z_sh ev Z T D ab m).length = if (Z_sh ev Z T D ab 3).length ≤ m then (Z_sh ev Z T D ab 3).length else 0 := by
  unfold Z_sh F_s
  cases h3 : L_fst (fun n => F_x (Z_ok Z T ab) (Z_ov ev Z D ab) (n + 1) []) 0 3 with
  | none =>
    have a := L_fst_none_all _ _ h3
    rw [L_fst_none m 0 (fun j h1 h2 => a j (by omega) (by omega))]
    show 0 = if 0 ≤ m then 0 else 0
    rw [if_pos (by omega)]
  | some x =>
    obtain ⟨j, h1, h2, h4, h5⟩ := L_fst_some _ _ h3
    have lx := F_x_len _ _ _ h4
    rw [List.length_nil, Nat.zero_add] at lx
    show _ = if x.length ≤ m then x.length else 0
    by_cases c : j < m
    · rw [L_fst_at (j := j) m 0 h1 (by omega) h4 h5, if_pos (by omega)]
      rfl
    · rw [L_fst_none m 0 (fun k h1 h2 => h5 k (by omega) (by omega)), if_neg (by omega)]
      rfl
theorem Z_sh_len {m : Nat} : (Z_sh ev Z T D ab m).length ≤ m := by
  unfold Z_sh F_s
  cases h3 : L_fst (fun n => F_x (Z_ok Z T ab) (Z_ov ev Z D ab) (n + 1) []) 0 m with
  | none => exact Nat.zero_le _
  | some x =>
    obtain ⟨j, h1, h2, h4, h5⟩ := L_fst_some _ _ h3
    have lx := F_x_len _ _ _ h4
    rw [List.length_nil, Nat.zero_add] at lx
    show x.length ≤ m
    omega
noncomputable def P_n (ev : pE) (S : pH) (T D p o : Nat) : Nat := (Z_sh ev S T D ((nI 1 <<< (nI p &&& 31)) ||| (nI 1 <<< (nI o &&& 31))) 3).length
noncomputable def P_st (ev : pE) (S : pH) (T D p : Nat) (o : Nat) (x : Nat × Option Nat) : Nat × Option Nat := if (¬ o = p ∧ S 1 o = S 1 p) ∧ 0 < P_n ev S T D p o ∧ P_n ev S T D p o < x.1 then (P_n ev S T D p o, some o) else x
noncomputable def P_rs (ev : pE) (S : pH) (P T D p : Nat) : Nat × Option Nat := B_fold (P_st ev S T D p) 0 P (4, none)
theorem P_st_le {x : Nat × Option Nat} (o : Nat) (hx : x.1 ≤ 4) : (P_st ev S T D p o x).1 ≤ 4 := by
  unfold P_st
  split
  · rename_i q
    omega
  · exact hx
theorem wu_pool_loop {al : Int32} (hp : p < P) (hb : b < 2) (hf : f < 2 + K) (hfb : ¬ f = b) (ef : S 1 p = nI f) (W : R_w P T K Y S) (hD : S_dist S Y f b ≤ 60) : ∀ (j o m : Nat) (h : pH) (x : Nat × Option Nat), o + j = P → j < m → x.1 ≤ 4 → 0 < x.1 → C_h h P T K Y S ev → ∃ h', wu_pool_49 m (nI p) (nI b) al (nI x.1) (S_enc x.2) (nI o) h = (if S_enc (B_fold (P_st ev S T (S_dist S Y f b) p) o j x).2 = -1 then some (-2, h') else if al = 0 then wu_pool_140 (S_enc (B_fold (P_st ev S T (S_dist S Y f b) p) o j x).2) (-1) (nI (B_fold (P_st ev S T (S_dist S Y f b) p) o j x).1) h' else wu_pool_140 (S_enc (B_fold (P_st ev S T (S_dist S Y f b) p) o j x).2) al (nI (B_fold (P_st ev S T (S_dist S Y f b) p) o j x).1) h') ∧ B_fr E_p h h' := by
  have h6 := W.1
  have h5 := W.2.2.1
  intro j
  induction j with
  | zero =>
    intro o m h x ho hm hx hx0 C
    obtain ⟨m, rfl⟩ : ∃ n', m = n' + 1 := ⟨m - 1, by omega⟩
    refine ⟨h, ?_, B_fr.refl _ _⟩
    show (if h 3 10 ≤ nI o then _ else _) = _
    rw [C.1.1, if_pos (nI_le (by omega) (by omega)), bc_m1, bc_m2]
    rfl
  | succ j ih =>
    intro o m h x ho hm hx hx0 C
    obtain ⟨m, rfl⟩ : ∃ n', m = n' + 1 := ⟨m - 1, by omega⟩
    have hno : ¬ nI o = -1 := fun w => by rw [bn_eqm (by omega)] at w; exact w
    have ebeg : S_beg S P (nI p) (nI o) (nI b) = (!decide (o = p) && decide (S 1 o = S 1 p)) := by
      unfold S_beg
      rw [B_is_t hp (by omega), B_is_t (show o < P by omega) (by omega), B_is_t hb (by omega), B_n_nI (by omega), B_n_nI (by omega), ef, decide_eq_false (show ¬ nI f = nI b from fun w => by rw [bn_eq (by omega) (by omega)] at w; exact hfb w), decide_eq_false hno]
      have e1 : decide (nI p = nI o) = decide (o = p) := decide_eq_decide.mpr (by rw [bn_eq (by omega) (by omega)]; exact eq_comm)
      have e2 : decide (nI f = S 1 o) = decide (S 1 o = nI f) := decide_eq_decide.mpr eq_comm
      rw [e1, e2]
      simp
    have hskip : ∀ h1, C_h h1 P T K Y S ev → B_fr E_p h h1 → P_st ev S T (S_dist S Y f b) p o x = x → ∃ h', wu_pool_49 m (nI p) (nI b) al (nI x.1) (S_enc x.2) (nI (o + 1)) h1 = (if S_enc (B_fold (P_st ev S T (S_dist S Y f b) p) o (j + 1) x).2 = -1 then some (-2, h') else if al = 0 then wu_pool_140 (S_enc (B_fold (P_st ev S T (S_dist S Y f b) p) o (j + 1) x).2) (-1) (nI (B_fold (P_st ev S T (S_dist S Y f b) p) o (j + 1) x).1) h' else wu_pool_140 (S_enc (B_fold (P_st ev S T (S_dist S Y f b) p) o (j + 1) x).2) al (nI (B_fold (P_st ev S T (S_dist S Y f b) p) o (j + 1) x).1) h') ∧ B_fr E_p h h' := by
      intro h1 C1 F1 hst
      obtain ⟨h', y1, y2⟩ := ih (o + 1) m h1 x (by omega) (by omega) hx hx0 C1
      refine ⟨h', ?_, F1.trans y2⟩
      have : B_fold (P_st ev S T (S_dist S Y f b) p) o (j + 1) x = B_fold (P_st ev S T (S_dist S Y f b) p) (o + 1) j x := by
        show B_fold _ (o + 1) j (P_st ev S T (S_dist S Y f b) p o x) = _
        rw [hst]
      rw [this]
      exact y1
    show ∃ h', (if h 3 10 ≤ nI o then _ else _) = _ ∧ _
    rw [C.1.1, if_neg (nI_ge (by omega) (by omega)), cr_begin_s _ _ _ C.1 W, ebeg]
    by_cases c : ¬ o = p ∧ S 1 o = S 1 p
    · rw [decide_eq_false c.1, decide_eq_true c.2, if_pos (by decide), B_bind, if_neg (by decide), B_n_nI (by omega), B_n_nI (by omega), ef, B_n_nI (by omega), bc_1, pk_sub (show 1 ≤ x.1 by omega)]
      have eab : S_abd (nI p) (nI o) = (nI 1 <<< (nI p &&& 31)) ||| (nI 1 <<< (nI o &&& 31)) := by
        unfold S_abd
        rw [if_neg hno]
      have hF := B_ld_p h (S_abd (nI p) (nI o)) (nI f) (nI b) (nI (S_dist S Y f b))
      obtain ⟨h4, h6', x1, x2, x3, x4, x5⟩ := wk_short (l := x.1 - 1) (by omega) W hD (C.fr (hF.mono E_p_sc)) (B_ld_6 _ _ _ _ _) (B_ld_9 _ _ _ _ _)
      have F6 : B_fr E_p h h6' := hF.trans (x3.mono E_w_p)
      have C6 := C.fr (F6.mono E_p_sc)
      rw [Z_sh_le (show x.1 - 1 ≤ 3 by omega), eab] at x2
      have hn3 : (Z_sh ev S T (S_dist S Y f b) ((nI 1 <<< (nI p &&& 31)) ||| (nI 1 <<< (nI o &&& 31))) 3).length = P_n ev S T (S_dist S Y f b) p o := rfl
      have hn3' : P_n ev S T (S_dist S Y f b) p o ≤ 3 := Z_sh_len
      rw [hn3] at x2
      rw [x1, B_bind, x2, B_bind]
      unfold wu_pool_108
      rw [bc_1, nI_add]
      by_cases w : 0 < P_n ev S T (S_dist S Y f b) p o ∧ P_n ev S T (S_dist S Y f b) p o < x.1
      · rw [if_pos (show P_n ev S T (S_dist S Y f b) p o ≤ x.1 - 1 by omega), if_neg (fun z => by rw [bn_le0 (by omega)] at z; omega)]
        have hst : P_st ev S T (S_dist S Y f b) p o x = (P_n ev S T (S_dist S Y f b) p o, some o) := if_pos ⟨c, w⟩
        obtain ⟨h', y1, y2⟩ := ih (o + 1) m h6' (P_n ev S T (S_dist S Y f b) p o, some o) (by omega) (by omega) (by show P_n ev S T (S_dist S Y f b) p o ≤ 4; omega) w.1 C6
        have : B_fold (P_st ev S T (S_dist S Y f b) p) o (j + 1) x = B_fold (P_st ev S T (S_dist S Y f b) p) (o + 1) j (P_n ev S T (S_dist S Y f b) p o, some o) := by
          show B_fold _ (o + 1) j (P_st ev S T (S_dist S Y f b) p o x) = _
          rw [hst]
        rw [this]
        exact ⟨h', y1, F6.trans y2⟩
      · have e0 : (if P_n ev S T (S_dist S Y f b) p o ≤ x.1 - 1 then P_n ev S T (S_dist S Y f b) p o else 0) = 0 := by
          by_cases z : P_n ev S T (S_dist S Y f b) p o ≤ x.1 - 1
          · rw [if_pos z]; omega
          · rw [if_neg z]
        rw [e0, if_pos (by decide)]
        exact hskip h6' C6 F6 (if_neg (fun z => w z.2))
    · have e0 : (!decide (o = p) && decide (S 1 o = S 1 p)) = false := by
        by_cases c1 : o = p
        · rw [decide_eq_true c1]; rfl
        · rw [decide_eq_false c1, decide_eq_false (fun c2 => c ⟨c1, c2⟩)]; rfl
      rw [e0, if_neg (by decide), B_bind, if_pos rfl]
      unfold wu_pool_108
      rw [bc_1, nI_add]
      exact hskip h C (B_fr.refl _ _) (if_neg (fun z => c z.1))
def P_e2 : Option Nat → Int32
  | none => -2
  | some o => nI o
def P_le : Nat × Option Nat → Nat
  | (_, none) => 1000000
  | (x, some _) => x
theorem mo_pool_loop (hp : p < P) (hb : b < 2) (hf : f < 2 + K) (ef : S 1 p = nI f) (W : R_w P T K Y S) : ∀ (j o m : Nat) (h : pH) (x : Nat × Option Nat), o + j = P → j < m → x.1 ≤ 4 → (x.2 = none → x.1 = 4) → M_h h P T K Y S ev → R_a h 52 P T S → ∃ h', mo_pool_27 m (nI p) (nI b) (P_e2 x.2) (nI (P_le x)) (nI o) h = mo_pool_27 (m - j) (nI p) (nI b) (P_e2 (B_fold (P_st ev S T (S_dist S Y f b) p) o j x).2) (nI (P_le (B_fold (P_st ev S T (S_dist S Y f b) p) o j x))) (nI P) h' ∧ B_fr E_z h h' := by
  have h6 := W.1
  have h5 := W.2.2.1
  intro j
  induction j with
  | zero =>
    intro o m h x ho hm hx hx0 M A
    refine ⟨h, ?_, B_fr.refl _ _⟩
    rw [show o = P by omega]
    rfl
  | succ j ih =>
    intro o m h x ho hm hx hx0 M A
    obtain ⟨m, rfl⟩ : ∃ n', m = n' + 1 := ⟨m - 1, by omega⟩
    have hskip : ∀ h1, M_h h1 P T K Y S ev → R_a h1 52 P T S → B_fr E_z h h1 → P_st ev S T (S_dist S Y f b) p o x = x → ∃ h', mo_pool_27 m (nI p) (nI b) (P_e2 x.2) (nI (P_le x)) (nI (o + 1)) h1 = mo_pool_27 (m + 1 - (j + 1)) (nI p) (nI b) (P_e2 (B_fold (P_st ev S T (S_dist S Y f b) p) o (j + 1) x).2) (nI (P_le (B_fold (P_st ev S T (S_dist S Y f b) p) o (j + 1) x))) (nI P) h' ∧ B_fr E_z h h' := by
      intro h1 M1 A1 F1 hst
      obtain ⟨h', y1, y2⟩ := ih (o + 1) m h1 x (by omega) (by omega) hx hx0 M1 A1
      refine ⟨h', ?_, F1.trans y2⟩
      have : B_fold (P_st ev S T (S_dist S Y f b) p) o (j + 1) x = B_fold (P_st ev S T (S_dist S Y f b) p) (o + 1) j x := by
        show B_fold _ (o + 1) j (P_st ev S T (S_dist S Y f b) p o x) = _
        rw [hst]
      rw [this, show m + 1 - (j + 1) = m - j by omega]
      exact y1
    show ∃ h', (if h 51 4 ≤ nI o then _ else _) = _ ∧ _
    rw [M.1.1, if_neg (nI_ge (by omega) (by omega))]
    unfold mo_pool_109
    rw [bc_1, nI_add]
    by_cases c1 : o = p
    · subst c1
      rw [if_pos rfl]
      exact hskip h M A (B_fr.refl _ _) (if_neg (fun z => z.1.1 rfl))
    · rw [if_neg (fun w => by rw [bn_eq (by omega) (by omega)] at w; exact c1 w), po_52 (by omega), B_ift, po_52 (by omega), B_ift, nI_clamp (by omega), nI_clamp (by omega), A.1 o (by omega), A.1 p hp]
      by_cases c2 : S 1 o = S 1 p
      · rw [if_pos c2, B_ift, ef, bc_3]
        obtain ⟨h7, y1, y2, -⟩ := mo_leastRow_s (ab := (nI 1 <<< (nI p &&& 31)) ||| (nI 1 <<< (nI o &&& 31))) (most := 3) (by omega) (Or.inl rfl : B_sl 52) (by decide) hf hb W M A
        have hn3 : (Z_sh ev S T (S_dist S Y f b) ((nI 1 <<< (nI p &&& 31)) ||| (nI 1 <<< (nI o &&& 31))) 3).length = P_n ev S T (S_dist S Y f b) p o := rfl
        have hn3' : P_n ev S T (S_dist S Y f b) p o ≤ 3 := Z_sh_len
        have M7 := M.frz y2
        have A7 : R_a h7 52 P T S := A.cell (y2.row 52 (fun _ => rfl))
        have hle : P_le x ≤ 1000000 ∧ (P_n ev S T (S_dist S Y f b) p o < P_le x ↔ P_n ev S T (S_dist S Y f b) p o < x.1) := by
          obtain ⟨x1, x2⟩ := x
          cases x2 with
          | none =>
            have e4 : x1 = 4 := hx0 rfl
            show 1000000 ≤ 1000000 ∧ (P_n ev S T (S_dist S Y f b) p o < 1000000 ↔ P_n ev S T (S_dist S Y f b) p o < x1)
            constructor
            · omega
            · constructor <;> intro <;> omega
          | some w =>
            have e4 : x1 ≤ 4 := hx
            exact ⟨by show x1 ≤ 1000000; omega, Iff.rfl⟩
        rw [hn3] at y1
        rw [y1, B_bind]
        by_cases w0 : 0 < P_n ev S T (S_dist S Y f b) p o
        · rw [if_neg (fun z => by rw [bn_eq0 (by omega)] at z; omega)]
          by_cases w1 : P_n ev S T (S_dist S Y f b) p o < x.1
          · rw [if_pos (by rw [bn_lt (by omega) (by omega)]; exact hle.2.mpr w1)]
            have hst : P_st ev S T (S_dist S Y f b) p o x = (P_n ev S T (S_dist S Y f b) p o, some o) := if_pos ⟨⟨c1, c2⟩, w0, w1⟩
            obtain ⟨h', z1, z2⟩ := ih (o + 1) m h7 (P_n ev S T (S_dist S Y f b) p o, some o) (by omega) (by omega) (by show P_n ev S T (S_dist S Y f b) p o ≤ 4; omega) (fun q => by cases q) M7 A7
            have : B_fold (P_st ev S T (S_dist S Y f b) p) o (j + 1) x = B_fold (P_st ev S T (S_dist S Y f b) p) (o + 1) j (P_n ev S T (S_dist S Y f b) p o, some o) := by
              show B_fold _ (o + 1) j (P_st ev S T (S_dist S Y f b) p o x) = _
              rw [hst]
            rw [this, show m + 1 - (j + 1) = m - j by omega]
            exact ⟨h', z1, y2.trans z2⟩
          · rw [if_neg (fun z => by rw [bn_lt (by omega) (by omega)] at z; exact w1 (hle.2.mp z))]
            exact hskip h7 M7 A7 y2 (if_neg (fun z => w1 z.2.2))
        · rw [if_pos (by rw [bn_eq0 (by omega)]; omega)]
          exact hskip h7 M7 A7 y2 (if_neg (fun z => w0 z.2.1))
      · rw [if_neg c2]
        exact hskip h M A (B_fr.refl _ _) (if_neg (fun z => c2 z.1.2))
theorem P_rs_ok : (P_rs ev S P T D p).1 ≤ 4 ∧ ((P_rs ev S P T D p).2 = none → (P_rs ev S P T D p).1 = 4) ∧ ∀ o, (P_rs ev S P T D p).2 = some o → o < P := by
  have := B_fold_inv (g := P_st ev S T D p) (I := fun k x => x.1 ≤ 4 ∧ (x.2 = none → x.1 = 4) ∧ ∀ o, x.2 = some o → o < k) P 0 (4, none) ⟨Nat.le_refl _, fun _ => rfl, fun o q => by cases q⟩ (fun j x _ _ hx => by
    refine ⟨P_st_le j hx.1, ?_, ?_⟩
    · unfold P_st
      split
      · intro q
        cases q
      · exact hx.2.1
    · unfold P_st
      split
      · intro o q
        cases q
        exact Nat.lt_succ_self _
      · intro o q
        have := hx.2.2 o q
        omega)
  rw [Nat.zero_add] at this
  exact this
theorem B_pool (hI : Inv i h) (v0 v1 : Int32) : ∃ r h1 h2, wu_pool v0 v1 h = some (r, h1) ∧ mo_pool v0 v1 h1 = some (r, h2) ∧ Inv (i + 5) h2 := by
  obtain ⟨P, T, K, Y, n, S, ev, I, r⟩ := hI
  obtain ⟨R, M, W, X, V, E, L⟩ := id I
  have h6 := W.1
  have h10 := W.2.1
  have h5 := W.2.2.1
  cases q : S_beg S P v0 (-1) v1 with
  | false =>
    refine ⟨-1, h, B_t0 h, ?_, ?_, B_qr I r⟩
    · unfold wu_pool
      rw [bc_m1, cr_begin_s _ _ _ R W, q, if_neg (by decide), B_bind, if_pos rfl]
    · have M2 : R_m (B_t0 h) P T K Y S := M.sm (B_t0_fr _).sm_d
      unfold mo_pool
      rw [bc_0]
      show px_bind (mo_canGo v0 v1 (B_t0 h)) _ = _
      rw [mo_canGo_s _ _ M2 W, q, B_bind, if_pos (show B_01 false = 0 from rfl), bc_m1]
  | true =>
    obtain ⟨p, f, b, hp, hb, hf, hfb, rfl, rfl, ef, hD, ecr, C2⟩ := S_beg_go I q
    have F2 : B_fr E_p h (B_ld h (nI 1 <<< (nI p &&& 31)) (nI f) (nI b) (nI (S_dist S Y f b))) := B_ld_p h _ _ _ _
    generalize hab : nI 1 <<< (nI p &&& 31) = ab at *
    obtain ⟨h4, h6', x1, x2, x3, x4, x5⟩ := wk_short (l := 3) (by omega) W hD C2 (B_ld_6 _ _ _ _ _) (B_ld_9 _ _ _ _ _)
    have F6 : B_fr E_p h h6' := F2.trans (x3.mono E_w_p)
    have C6 : C_h h6' P T K Y S ev := C_h.fr ⟨R, L.1⟩ (F6.mono E_p_sc)
    obtain ⟨h7, y1, y2⟩ := wu_pool_loop (al := nI (Z_sh ev S T (S_dist S Y f b) ab 3).length) hp hb hf hfb ef W hD P 0 px_F h6' (4, none) (by omega) (px_F_lt (by omega)) (by show 4 ≤ 4; omega) (by show 0 < 4; omega) C6
    have F7 := F6.trans y2
    have hal : (Z_sh ev S T (S_dist S Y f b) ab 3).length ≤ 3 := Z_sh_len
    have ers : B_fold (P_st ev S T (S_dist S Y f b) p) 0 P (4, none) = P_rs ev S P T (S_dist S Y f b) p := rfl
    obtain ⟨r1, r2, r3⟩ := P_rs_ok (ev := ev) (S := S) (P := P) (T := T) (D := S_dist S Y f b) (p := p)
    rw [ers] at y1
    have hcl : wu_pool (nI p) (nI b) h = wu_pool_49 px_F (nI p) (nI b) (nI (Z_sh ev S T (S_dist S Y f b) ab 3).length) (nI 4) (-1) 0 h6' := by
      unfold wu_pool
      rw [bc_m1, ecr, B_bind, if_neg (by decide), bc_3, x1, B_bind, x2, B_bind, bc_4, bc_0]
    rw [nI_0] at y1
    have y1' := y1
    change wu_pool_49 px_F (nI p) (nI b) (nI (Z_sh ev S T (S_dist S Y f b) ab 3).length) (nI 4) (-1) 0 h6' = _ at y1'
    have hmo : ∀ hh, R_m (B_t0 hh) P T K Y S → M_h (B_t0 hh) P T K Y S ev → R_a (B_t0 hh) 52 P T S → ∃ h8 m', mo_pool (nI p) (nI b) hh = mo_pool_27 (m' + 1) (nI p) (nI b) (P_e2 (P_rs ev S P T (S_dist S Y f b) p).2) (nI (P_le (P_rs ev S P T (S_dist S Y f b) p))) (nI P) h8 ∧ B_fr E_z (B_t0 hh) h8 := by
      intro hh M2 MH A
      obtain ⟨h8, z1, z2⟩ := mo_pool_loop (ev := ev) hp hb hf ef W P 0 px_F (B_t0 hh) (4, none) (by omega) (px_F_lt (by omega)) (by show 4 ≤ 4; omega) (fun _ => rfl) MH A
      have h7F : 7 < px_F := px_F_lt (by omega)
      refine ⟨h8, px_F - P - 1, ?_, z2⟩
      rw [show px_F - P - 1 + 1 = px_F - P by omega]
      have ek : px_k 1000000 = nI 1000000 := px_k_eq _
      unfold mo_pool
      rw [bc_0]
      show px_bind (mo_canGo (nI p) (nI b) (B_t0 hh)) _ = _
      rw [mo_canGo_s _ _ M2 W, q, B_bind, if_neg (by decide), ek, bc_m2]
      rw [nI_0] at z1
      exact z1
    cases hs : (P_rs ev S P T (S_dist S Y f b) p).2 with
    | none =>
      rw [hs] at y1'
      obtain ⟨M2, MH, A⟩ := I.mo (F7.mono E_p_sc)
      obtain ⟨h8, m', z1, z2⟩ := hmo h7 M2 MH A
      refine ⟨-2, h7, h8, ?_, ?_, B_q0 I r (F7.mono E_p_sc) ((B_t0_fr _).trans (z2.mono E_z_sd)) ?_ ?_ ?_ ?_⟩
      · rw [hcl, y1', if_pos (show S_enc none = -1 from rfl)]
      · rw [z1, hs]
        show (if h8 51 4 ≤ nI P then _ else _) = _
        rw [z2 51 4 rfl, MH.1.1, if_pos (nI_le (Nat.le_refl _) (by omega)), if_neg (show ¬ (0 : Int32) ≤ P_e2 none by decide), bc_m2]
      · rw [F7 45 1 rfl]
      · rw [F7.row 46 (fun _ => rfl)]
      · rw [z2 51 13 rfl, B_t0_at _ (by decide)]
      · rw [z2.row 59 (fun _ => rfl), B_t0_row _ (by decide)]
    | some o =>
      have ho := r3 o hs
      rw [hs] at y1'
      have hno : ¬ S_enc (some o) = -1 := fun w => by
        change nI o = -1 at w
        rw [bn_eqm (by omega)] at w
        exact w
      rw [if_neg hno] at y1'
      have hle : P_le (P_rs ev S P T (S_dist S Y f b) p) = (P_rs ev S P T (S_dist S Y f b) p).1 := by
        cases hz : P_rs ev S P T (S_dist S Y f b) p with
        | mk a1 a2 =>
          rw [hz] at hs
          change a2 = some o at hs
          rw [hs]
          rfl
      obtain ⟨h9, t1, t2, t3⟩ := tl_tell_2 h7 (nI (P_rs ev S P T (S_dist S Y f b) p).1) (if nI (Z_sh ev S T (S_dist S Y f b) ab 3).length = 0 then -1 else nI (Z_sh ev S T (S_dist S Y f b) ab 3).length)
      have F9 : B_fr B_sc h h9 := (F7.mono E_p_sc).trans (t3.mono B_frw_sc)
      obtain ⟨M2, MH, A⟩ := I.mo F9
      obtain ⟨h8, m', z1, z2⟩ := hmo h9 M2 MH A
      obtain ⟨h10', w1, w2, -⟩ := mo_leastRow_s (ab := ab) (most := 3) (by omega) (Or.inl rfl : B_sl 52) (by decide) hf hb W (MH.frz z2) (A.cell (z2.row 52 (fun _ => rfl)))
      obtain ⟨h11, u1, u2, u3⟩ := mo_tell_s (nI (P_rs ev S P T (S_dist S Y f b) p).1) (B_rm_nil h10') (by decide)
      obtain ⟨h12, g1, g2, g3⟩ := mo_tell_s (if nI (Z_sh ev S T (S_dist S Y f b) ab 3).length = 0 then -1 else nI (Z_sh ev S T (S_dist S Y f b) ab 3).length) u2 (by simp)
      have F10 : B_fr B_frm h10' (px_w h10' 51 13 0) := (B_fr.refl _ _).w rfl
      refine ⟨nI o, h9, h12, ?_, ?_, B_q1 I F9 ((B_t0_fr _).trans ((z2.mono E_z_sd).trans ((w2.mono E_z_sd).trans (((F10.trans u3).trans g3).mono B_frm_sd)))) t2 g2 (by show 2 ≤ 10; omega)⟩
      · rw [hcl, y1']
        unfold wu_pool_140
        by_cases z : nI (Z_sh ev S T (S_dist S Y f b) ab 3).length = 0
        · rw [if_pos z] at t1 ⊢
          rw [t1, B_bind]
          rfl
        · rw [if_neg z] at t1 ⊢
          rw [t1, B_bind]
          rfl
      · rw [z1, hs, hle]
        show (if h8 51 4 ≤ nI P then _ else _) = _
        rw [z2 51 4 rfl, MH.1.1, if_pos (nI_le (Nat.le_refl _) (by omega)), if_pos (show (0 : Int32) ≤ P_e2 (some o) from Eq.mpr (bn_0le (show o < 2 ^ 31 by omega)) trivial), po_52 (by omega), B_ift, nI_clamp (by omega), z2.row 52 (fun _ => rfl), A.1 p hp, ef, bc_1, hab, bc_3, w1, B_bind, bc_0]
        dsimp only
        rw [u1, B_bind, bc_m1]
        unfold mo_pool_166
        by_cases z : nI (Z_sh ev S T (S_dist S Y f b) ab 3).length = 0
        · rw [if_pos z] at g1 ⊢
          rw [g1, B_bind]
          rfl
        · rw [if_neg z] at g1 ⊢
          rw [g1, B_bind]
          rfl
end POOL
