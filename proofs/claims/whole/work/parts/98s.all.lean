/-! Layer B: the class goes through all rows; rows() -/
def E_x : Nat → Nat → Bool := fun a k => match a with
  | 32 => true
  | a => B_frw a k
def E_vx : Nat → Nat → Bool := fun a k => match a with
  | 22 => true
  | 32 => true
  | 45 => Nat.beq k 1
  | 46 => true
  | a => E_w a k
theorem E_x_v : ∀ a k, E_x a k = true → E_vx a k = true := fun a k e => by
  unfold E_x at e
  split at e
  · rfl
  · unfold B_frw at e
    split at e
    · exact e
    · rfl
    · cases e
theorem E_w_v : ∀ a k, E_w a k = true → E_vx a k = true := fun a k e => by
  unfold E_vx
  split
  · rfl
  · rfl
  · cases e
  · cases e
  · exact e
theorem E_vx_sc : ∀ a k, E_vx a k = true → B_sc a k = true := fun a k e => by
  unfold E_vx at e
  split at e
  · rfl
  · rfl
  · have := Nat.eq_of_beq_eq_true e
    subst this
    rfl
  · rfl
  · exact E_w_sc a k e
theorem B_frw_x : ∀ a k, B_frw a k = true → E_x a k = true := fun a k e => by
  unfold E_x
  split
  · rfl
  · exact e
section ALL
variable {i : Nat} {h : pH} {P T K Y D lg p b f n m q : Nat} {S Z : pH} {ev : pE} {ab : Int32} {r : List Nat}
theorem E_x_beq {a k : Nat} (h1 : a ≠ 32) (h2 : a ≠ 45) (h3 : a ≠ 46) : E_x a k = false := by
  unfold E_x
  split
  · exact absurd rfl h1
  · unfold B_frw
    split
    · exact absurd rfl h2
    · exact absurd rfl h3
    · rfl
theorem Wk.fx {h' : pH} (k : Wk h Z T D ev ab lg m r q) (x : B_fr E_x h h') : Wk h' Z T D ev ab lg m r q := by
  unfold Wk at *
  rw [x 25 9 rfl, x 25 10 rfl, x 25 11 rfl, x 25 12 rfl, x.row 26 (fun _ => rfl), x.row 27 (fun _ => rfl), x.row 29 (fun _ => rfl), x.row 30 (fun _ => rfl), x.row 31 (fun _ => rfl)]
  exact k
theorem wk_all_sim {α : Type} (F : Nat → α → Nat → pH → pR) (G : Nat → α → Nat → pH → pR) (fin : α → pH → pR) (Q : Nat → α → pH → Prop) (bd : List Nat → α → α) (W : R_w P T K Y S) (hD : D ≤ 60) (hlg : lg ≤ 40) (HF : ∀ n a k h, k < 1000000 → F (n + 1) a k h = px_bind (wk_next (nI 1) h) fun z h2 => if z = 0 then fin a h2 else G n a k h2) (HQ : ∀ k a h h', Q k a h → B_fr E_n h h' → Q k a h') (HG : ∀ n a k h r, k < 1000000 → Z_v S T ab r → r.length ≤ 3 → r ≠ [] → Nd h S T D ev ab lg 3 r → C_h h P T K Y S ev → h 22 6 = ab → h 22 9 = nI D → h 22 7 = nI f → h 22 8 = nI b → Q k a h → ∃ h3, G n a k h = F n (bd r a) (k + 1) h3 ∧ Q (k + 1) (bd r a) h3 ∧ B_fr E_x h h3) : ∀ (N : Nat) (r : List Nat) (k n : Nat) (h : pH) (a x : α), W_l (Z_ok S T ab) (fun _ => 3) (fun _ r => Z_rc S D lg 3 r) bd (fun _ => true) N (N_x (Z_ok S T ab) 3 (Z_rc S D lg 3 r) r true) a = some x → Z_v S T ab r → C_h h P T K Y S ev → h 22 6 = ab → h 22 9 = nI D → h 22 7 = nI f → h 22 8 = nI b → Wk h S T D ev ab lg 3 r (r.length - 1) → (Z_rc S D lg 3 r = true → Wk h S T D ev ab lg 3 r r.length) → Q k a h → k + N ≤ 1000000 → N ≤ n → ∃ h', F n a k h = fin x h' ∧ (∃ k', k' ≤ 1000000 ∧ Q k' x h') ∧ B_fr E_vx h h' := by
  intro N
  induction N with
  | zero => intro r k n h a x hx; cases hx
  | succ N ih =>
    intro r k n h a x hx hv C h6 h9 h7 h8 kk kc qa hk hn
    obtain ⟨n, rfl⟩ : ∃ n', n = n' + 1 := ⟨n - 1, by omega⟩
    obtain ⟨h1, F1, o⟩ := wk_next_s (d := true) (fun _ _ _ => rfl) W W hD (show 3 ≤ 4 by omega) hlg C h6 h9 kk kc hv
    have F1v : B_fr E_vx h h1 := F1.mono (fun a k e => E_w_v a k (E_n_w a k e))
    rw [HF n a k h (by omega)]
    rcases o with ⟨o1, o2⟩ | ⟨r2, o1, o2, v2, l2, n2, nd⟩
    · rw [o1] at hx
      change some a = some x at hx
      cases hx
      change wk_next (nI 1) h = _ at o2
      rw [o2, B_bind, if_pos rfl]
      exact ⟨h1, rfl, ⟨k, by omega, HQ _ _ _ _ qa F1⟩, F1v⟩
    · rw [o1] at hx
      change W_l _ _ _ _ _ N (N_x _ 3 (Z_rc S D lg 3 r2) r2 true) (bd r2 a) = some x at hx
      change wk_next (nI 1) h = _ at o2
      have C1 := C.fr (F1.mono E_n_sc)
      rw [o2, B_bind, if_neg (by decide)]
      have e6 : h1 22 6 = ab := by rw [F1 22 6 rfl, h6]
      have e9 : h1 22 9 = nI D := by rw [F1 22 9 rfl, h9]
      have e7 : h1 22 7 = nI f := by rw [F1 22 7 rfl, h7]
      have e8 : h1 22 8 = nI b := by rw [F1 22 8 rfl, h8]
      obtain ⟨h3, g1, g2, g3⟩ := HG n a k h1 r2 (by omega) v2 l2 n2 nd C1 e6 e9 e7 e8 (HQ _ _ _ _ qa F1)
      have F3v : B_fr E_vx h1 h3 := g3.mono E_x_v
      obtain ⟨h', y1, y2, y3⟩ := ih r2 (k + 1) n h3 (bd r2 a) x hx v2 (C1.fr (F3v.mono E_vx_sc)) (by rw [g3 22 6 rfl, e6]) (by rw [g3 22 9 rfl, e9]) (by rw [g3 22 7 rfl, e7]) (by rw [g3 22 8 rfl, e8]) (nd.k1.fx g3) (fun c => (nd.k2 c).fx g3) g2 (by omega) (by omega)
      exact ⟨h', by rw [g1, y1], y2, (F1v.trans F3v).trans y3⟩
theorem wk_all {α : Type} (F : Nat → α → Nat → pH → pR) (G : Nat → α → Nat → pH → pR) (fin : α → pH → pR) (Q : Nat → α → pH → Prop) (bd : List Nat → α → α) (W : R_w P T K Y S) (hD : D ≤ 60) (HF : ∀ n a k h, k < 1000000 → F (n + 1) a k h = px_bind (wk_next (nI 1) h) fun z h2 => if z = 0 then fin a h2 else G n a k h2) (HQ : ∀ k a h h', Q k a h → B_fr E_n h h' → Q k a h') (HG : ∀ n a k h r, k < 1000000 → Z_v S T ab r → r.length ≤ 3 → r ≠ [] → Nd h S T D ev ab (Z_lg S T ab) 3 r → C_h h P T K Y S ev → h 22 6 = ab → h 22 9 = nI D → h 22 7 = nI f → h 22 8 = nI b → Q k a h → ∃ h3, G n a k h = F n (bd r a) (k + 1) h3 ∧ Q (k + 1) (bd r a) h3 ∧ B_fr E_x h h3) (hno : ∀ r a, ¬ D ≤ S_wds S r → bd r a = a) (a : α) (C : C_h h P T K Y S ev) (h6 : h 22 6 = ab) (h9 : h 22 9 = nI D) (h7 : h 22 7 = nI f) (h8 : h 22 8 = nI b) (kk : Wk h S T D ev ab (Z_lg S T ab) 3 [] 0) (qa : Q 0 a h) : ∃ h', F px_F a 0 h = fin ((R_pl (Z_ok S T ab) 3 []).foldl (fun a r => bd r a) a) h' ∧ (∃ k', k' ≤ 1000000 ∧ Q k' ((R_pl (Z_ok S T ab) 3 []).foldl (fun a r => bd r a) a) h') ∧ B_fr E_vx h h' := by
  have h12 : 12000 < px_F := px_F_lt (by omega)
  have e := W_end (Z_ok S T ab) (fun _ => 3) (fun (_ : α) r => Z_rc S D (Z_lg S T ab) 3 r) bd (fun _ => true) (fun _ => by show 3 ≤ 4; omega) a
  rw [W_full (Z_lg_ge W.2.1) bd hno] at e
  exact wk_all_sim F G fin Q bd W hD (Z_lg_le W) HF HQ HG 12000 [] 0 px_F h a _ e Z_v.nil C h6 h9 h7 h8 kk (fun _ => kk) qa (by omega) (by omega)
/-- rows that come over, rows that burst -/
noncomputable def Z_cb (ev : pE) (S : pH) (D : Nat) (ab : Int32) (r : List Nat) (a : Nat × Nat) : Nat × Nat := (a.1 + (if Z_ov ev S D ab r = true then 1 else 0), a.2 + (if Z_bu ev S D ab r = true then 1 else 0))
theorem wu_rows_s (W : R_w P T K Y S) (hD : D ≤ 60) (C : C_h h P T K Y S ev) (h6 : h 22 6 = ab) (h9 : h 22 9 = nI D) (h7 : h 22 7 = nI f) (h8 : h 22 8 = nI b) (kk : Wk h S T D ev ab (Z_lg S T ab) 3 [] 0) : ∃ h', wu_rows_31 px_F 0 0 0 h = wu_rows_94 (nI ((R_pl (Z_ok S T ab) 3 []).foldl (fun a r => Z_cb ev S D ab r a) (0, 0)).1) (nI ((R_pl (Z_ok S T ab) 3 []).foldl (fun a r => Z_cb ev S D ab r a) (0, 0)).2) h' ∧ B_fr E_vx h h' := by
  obtain ⟨h', y1, -, y3⟩ := wk_all (α := Nat × Nat) (fun n a k h => wu_rows_31 n (nI a.1) (nI a.2) (nI k) h) (fun n a k h2 => px_bind (wk_isOver h2) fun z3 h4 => if z3 = 0 then wu_rows_66 (wu_rows_31 n) (nI a.2) (nI k) (px_c 0) (nI a.1) h4 else wu_rows_66 (wu_rows_31 n) (nI a.2) (nI k) (px_c 1) (nI a.1) h4) (fun a h => wu_rows_94 (nI a.1) (nI a.2) h) (fun _ _ _ => True) (Z_cb ev S D ab) W hD (fun n a k h hk => by
    have ek : px_k 1000000 = nI 1000000 := px_k_eq _
    show (if px_k 1000000 ≤ nI k then _ else _) = _
    rw [ek, if_neg (nI_ge (by omega) (by omega)), bc_1]) (fun _ _ _ _ _ _ => trivial) (fun n a k h r hk v l hne nd C h6 h9 _ _ _ => by
    obtain ⟨i1, -, -⟩ := wk_node W hD h9 nd v hne
    have i2 := wk_burst W hD h9 nd v hne
    refine ⟨h, ?_, trivial, B_fr.refl _ _⟩
    have e85 : ∀ (s0 : Int32) c, (if c = true then nI 1 else 0) = s0 → ∀ x3, wu_rows_85 (wu_rows_31 n) x3 (nI k) s0 (nI a.2) h = wu_rows_31 n x3 (nI (a.2 + (if c = true then 1 else 0))) (nI (k + 1)) h := fun s0 c hs x3 => by
      unfold wu_rows_85
      dsimp only
      rw [bc_1, nI_add, ← hs]
      cases c
      · rw [if_neg (by decide), if_neg (by decide), ← nI_0, nI_add]
      · rw [if_pos rfl, if_pos rfl, nI_add]
    have e66 : ∀ (s0 : Int32) c, (if c = true then nI 1 else 0) = s0 → wu_rows_66 (wu_rows_31 n) (nI a.2) (nI k) s0 (nI a.1) h = wu_rows_31 n (nI (a.1 + (if c = true then 1 else 0))) (nI (a.2 + (if Z_bu ev S D ab r = true then 1 else 0))) (nI (k + 1)) h := fun s0 c hs => by
      have e1 : nI a.1 + s0 = nI (a.1 + (if c = true then 1 else 0)) := by
        rw [← hs]
        cases c
        · rw [if_neg (by decide), if_neg (by decide), ← nI_0, nI_add]
        · rw [if_pos rfl, if_pos rfl, nI_add]
      unfold wu_rows_66
      dsimp only
      rw [i2, B_bind, e1]
      cases hb : Z_bu ev S D ab r with
      | false =>
        rw [if_pos (show B_01 false = 0 from rfl)]
        exact e85 (px_c 0) false (by rw [bc_0]; rfl) _
      | true =>
        rw [if_neg (show ¬ B_01 true = 0 by decide)]
        exact e85 (px_c 1) true (by rw [bc_1]; rfl) _
    rw [i1, B_bind]
    unfold Z_cb
    cases ho : Z_ov ev S D ab r with
    | false =>
      rw [if_pos (show B_01 false = 0 from rfl)]
      exact e66 (px_c 0) false (by rw [bc_0]; rfl)
    | true =>
      rw [if_neg (show ¬ B_01 true = 0 by decide)]
      exact e66 (px_c 1) true (by rw [bc_1]; rfl)) (fun r a hw => by
    unfold Z_cb Z_ov Z_bu
    rw [decide_eq_false hw]
    rfl) (0, 0) C h6 h9 h7 h8 kk trivial
  refine ⟨h', ?_, y3⟩
  rw [← nI_0]
  exact y1
/-- a row counted by the reference -/
theorem mo_endRow_count (hp : p < 2 + K) (hb : b < 2) (W : R_w P T K Y Z) (hv : Z_v Z T ab r) (M : Ms h P T K Y Z ev ab p b) (Mr : M_row h r) (a : Nat × Nat) (e45 : h 51 45 = nI a.1) (e46 : h 51 46 = nI a.2) : ∃ h', mo_endRow (nI 1) h = some (0, h') ∧ (h' 51 45 = nI (Z_cb ev Z (S_dist Z Y p b) ab r a).1 ∧ h' 51 46 = nI (Z_cb ev Z (S_dist Z Y p b) ab r a).2) ∧ B_fr E_q h h' ∧ M_row h' r := by
  obtain ⟨g1, g2⟩ := mo_endRow_go (ev := ev) hp hb W hv M Mr (nI 1)
  have e91 : ∀ x g, mo_endRow_91 (nI 1) x g = some (0, g) := fun x g => by
    unfold mo_endRow_91 mo_endRow_194
    rw [bc_2, if_neg (by decide), bc_0, B_bz0]
  by_cases c : S_dist Z Y p b ≤ S_wds Z r
  · obtain ⟨h8, x1, x2, x3, x4⟩ := g2 c
    rw [x1, if_neg (by decide), bc_1, x4 51 45 rfl, x4 51 46 rfl, e45, e46, nI_add, nI_add]
    unfold Z_cb Z_ov Z_bu
    rw [decide_eq_true c, Bool.true_and, Bool.true_and]
    have mr : M_row h8 r := Mr.fr (Or.inr (Or.inl rfl)) x4
    cases hd : decide ((S_go ev Z (S_dist Z Y p b) ab r).2.1 = none) with
    | true =>
      rw [if_neg (show ¬ B_01 true = 0 by decide), e91]
      refine ⟨_, rfl, ⟨B_w_same _ _ _ _, ?_⟩, (x4.mono E_g_q).w rfl, ⟨?_, mr.2.1, fun k hk => ?_⟩⟩
      · rw [B_w_at, if_neg (by decide), x4 51 46 rfl, e46]
        rfl
      · rw [B_w_at, if_neg (by decide)]; exact mr.1
      · rw [B_w_cell _ _ _ (show (65 : Nat) ≠ 51 by decide)]; exact mr.2.2 k hk
    | false =>
      rw [if_pos (show B_01 false = 0 from rfl), e91]
      refine ⟨_, rfl, ⟨?_, B_w_same _ _ _ _⟩, (x4.mono E_g_q).w rfl, ⟨?_, mr.2.1, fun k hk => ?_⟩⟩
      · rw [B_w_at, if_neg (by decide), x4 51 45 rfl, e45]
        rfl
      · rw [B_w_at, if_neg (by decide)]; exact mr.1
      · rw [B_w_cell _ _ _ (show (65 : Nat) ≠ 51 by decide)]; exact mr.2.2 k hk
  · have e0 : Z_cb ev Z (S_dist Z Y p b) ab r a = a := by
      unfold Z_cb Z_ov Z_bu
      rw [decide_eq_false c]
      rfl
    rw [g1 c, e0]
    exact ⟨h, rfl, ⟨e45, e46⟩, B_fr.refl _ _, Mr⟩
theorem mo_count_s {many : Nat} (hmany : many ≤ 4) (hp : p < 2 + K) (hb : b < 2) (W : R_w P T K Y Z) (M : Ms h P T K Y Z ev ab p b) (a : Nat × Nat) (e45 : h 51 45 = nI a.1) (e46 : h 51 46 = nI a.2) : ∃ h', mo_goRows (nI many) (nI 1) h = some (0, h') ∧ h' 51 45 = nI ((R_el (Z_ok Z T ab) many []).foldl (fun a r => Z_cb ev Z (S_dist Z Y p b) ab r a) a).1 ∧ h' 51 46 = nI ((R_el (Z_ok Z T ab) many []).foldl (fun a r => Z_cb ev Z (S_dist Z Y p b) ab r a) a).2 ∧ B_fr E_q h h' := by
  obtain ⟨h', x1, x2, x3, x4⟩ := mo_goRows_s (fun (a : Nat × Nat) h => h 51 45 = nI a.1 ∧ h 51 46 = nI a.2) (Z_cb ev Z (S_dist Z Y p b) ab) (fun _ => false) (fun _ => 0) (fun _ _ => Nat.le_succ _) (nI 1) many hmany W (fun a h h' q e => ⟨by rw [e 51 45 (by decide) (by decide)]; exact q.1, by rw [e 51 46 (by decide) (by decide)]; exact q.2⟩) (fun r a h _ _ hv M Mr q => by
    obtain ⟨h', y1, y2, y3, y4⟩ := mo_endRow_count hp hb W hv M Mr a q.1 q.2
    exact ⟨h', y1, y2, y3, y4⟩) a (by have := Nat.pow_le_pow_right (show 0 < 10 by omega) hmany; omega) M ⟨e45, e46⟩
  rw [E_t_v] at x1 x2
  dsimp only at x1 x2
  rw [E_v_el] at x2
  exact ⟨h', x1, x2.1, x2.2, x3⟩
theorem B_rows (hI : Inv i h) (v0 v1 : Int32) : ∃ r h1 h2, wu_rows v0 v1 h = some (r, h1) ∧ mo_rows v0 v1 h1 = some (r, h2) ∧ Inv (i + 5) h2 := by
  obtain ⟨P, T, K, Y, n, S, ev, I, r⟩ := hI
  obtain ⟨R, M, W, X, V, E, L⟩ := id I
  have h6 := W.1
  have h10 := W.2.1
  have h5 := W.2.2.1
  cases q : S_beg S P v0 (-1) v1 with
  | false =>
    refine ⟨-1, h, B_t0 h, ?_, ?_, B_qr I r⟩
    · unfold wu_rows
      rw [bc_m1, cr_begin_s _ _ _ R W, q, if_neg (by decide), B_bind, if_pos rfl]
    · have M2 : R_m (B_t0 h) P T K Y S := M.sm (B_t0_fr _).sm_d
      unfold mo_rows
      rw [bc_0]
      show px_bind (mo_canGo v0 v1 (B_t0 h)) _ = _
      rw [mo_canGo_s _ _ M2 W, q, B_bind, if_pos (show B_01 false = 0 from rfl), bc_m1]
  | true =>
    obtain ⟨p, f, b, hp, hb, hf, hfb, rfl, rfl, ef, hD, ecr, C2⟩ := S_beg_go I q
    have F2 : B_fr B_sc h (B_ld h (nI 1 <<< (nI p &&& 31)) (nI f) (nI b) (nI (S_dist S Y f b))) := B_ld_fr h _ _ _ _
    generalize hab : nI 1 <<< (nI p &&& 31) = ab at *
    obtain ⟨h4, s1, s2, s3⟩ := wk_start_s (D := S_dist S Y f b) (l := 3) (by omega) W C2 (B_ld_6 _ _ _ _ _)
    obtain ⟨h5', x1, x2⟩ := wu_rows_s W hD (C2.fr (s3.mono E_w_sc)) (by rw [s3 22 6 rfl]; exact B_ld_6 _ _ _ _ _) (by rw [s3 22 9 rfl]; exact B_ld_9 _ _ _ _ _) (by rw [s3 22 7 rfl]; exact B_ld_7 _ _ _ _ _) (by rw [s3 22 8 rfl]; exact B_ld_8 _ _ _ _ _) s2
    have hcc : ∀ x y z, Z_cb ev S (S_dist S Y f b) ab y (Z_cb ev S (S_dist S Y f b) ab x z) = Z_cb ev S (S_dist S Y f b) ab x (Z_cb ev S (S_dist S Y f b) ab y z) := fun x y z => by
      unfold Z_cb
      exact Prod.ext (by dsimp only; omega) (by dsimp only; omega)
    have hfold := R_fold_3 (ok := Z_ok S T ab) (f := fun a r => Z_cb ev S (S_dist S Y f b) ab r a) (fun x y z => hcc x y z) (0, 0)
    generalize hR : (R_pl (Z_ok S T ab) 3 []).foldl (fun a r => Z_cb ev S (S_dist S Y f b) ab r a) (0, 0) = RR at *
    obtain ⟨h6', t1, t2, t3⟩ := tl_tell_s h5' (nI RR.2)
    have F6 : B_fr B_sc h h6' := ((F2.trans (s3.mono E_w_sc)).trans (x2.mono E_vx_sc)).trans (t3.mono B_frw_sc)
    obtain ⟨M2, MH, A⟩ := I.mo F6
    obtain ⟨g1, a1, a2, a3, a4, -, -, a5⟩ := mo_beginRows_s (ab := ab) (p := f) (b := b) (Or.inl rfl : B_sl 52) (by decide) W MH A
    obtain ⟨g2, b1, b2, b3, b4⟩ := mo_count_s (many := 1) (by omega) hf hb W a2 (0, 0) (by rw [a3]; exact nI_0.symm) (by rw [a4]; exact nI_0.symm)
    obtain ⟨g3, c1, c2, c3, c4⟩ := mo_count_s (many := 2) (by omega) hf hb W (a2.fr b4) _ b2 b3
    obtain ⟨g4, d1, d2, d3, d4⟩ := mo_count_s (many := 3) (by omega) hf hb W ((a2.fr b4).fr c4) _ c2 c3
    rw [← hfold] at d2 d3
    obtain ⟨g5, u1, u2, u3⟩ := mo_tell_s (nI RR.2) (B_rm_nil g4) (by decide)
    have F10 : B_fr B_frm g4 (px_w g4 51 13 0) := (B_fr.refl _ _).w rfl
    refine ⟨nI RR.1, h6', g5, ?_, ?_, B_q1 I F6 ((B_t0_fr _).trans ((a5.mono (fun a k e => E_z_sd a k (E_b_z a k e))).trans (((b4.trans c4).trans d4).mono E_q_sd |>.trans ((F10.trans u3).mono B_frm_sd)))) t2 u2 (by show 1 ≤ 10; omega)⟩
    · unfold wu_rows
      rw [bc_m1, ecr, B_bind, if_neg (by decide), bc_3, s1, B_bind, bc_0, x1]
      unfold wu_rows_94
      rw [t1, B_bind]
    · unfold mo_rows
      rw [bc_0]
      show px_bind (mo_canGo (nI p) (nI b) (B_t0 h6')) _ = _
      rw [mo_canGo_s _ _ M2 W, q, B_bind, if_neg (by decide), po_52 (by omega), B_ift, nI_clamp (by omega), A.1 p hp, ef, bc_1, hab, a1, B_bind]
      obtain ⟨nF, hF⟩ := px_F_pos (n := 9) (px_F_lt (by omega))
      have h9F : 9 < px_F := px_F_lt (by omega)
      obtain ⟨nG, rfl⟩ : ∃ n', nF = n' + 3 := ⟨nF - 3, by omega⟩
      rw [hF]
      show (if px_c 3 < nI 1 then _ else _) = _
      rw [bc_3, if_neg (fun w => by rw [bn_lt (by omega) (by omega)] at w; omega), bc_1, b1, B_bind, nI_add]
      show (if px_c 3 < nI 2 then _ else _) = _
      rw [bc_3, if_neg (fun w => by rw [bn_lt (by omega) (by omega)] at w; omega), bc_1, c1, B_bind, nI_add]
      show (if px_c 3 < nI 3 then _ else _) = _
      rw [bc_3, if_neg (fun w => by rw [bn_lt (by omega) (by omega)] at w; omega), bc_1, d1, B_bind, nI_add]
      show (if px_c 3 < nI 4 then _ else _) = _
      rw [bc_3, if_pos (by rw [bn_lt (by omega) (by omega)]; omega), bc_0]
      dsimp only
      have e46 : (px_w g4 51 13 0) 51 46 = nI RR.2 := by rw [B_w_at, if_neg (by decide)]; exact d3
      rw [e46, u1, B_bind, u3 51 45 rfl, B_w_at, if_neg (by decide), d2]
end ALL
