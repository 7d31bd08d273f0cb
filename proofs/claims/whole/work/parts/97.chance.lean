/-! Layer B: chance -/
def S_cl (v : Int64) : Int32 := (px_maxL (Int64.ofNat 0) (px_minL 10 v)).toInt32
theorem S_cl_c (v : Int64) : (if 0 ≤ lg_cmp v (Int64.ofNat 0) then (if lg_cmp v 10 ≤ 0 then v.toInt32 else nI 10) else 0) = S_cl v := by
  unfold S_cl px_maxL px_minL
  have z : (10 : Int64).toInt32 = nI 10 := by decide
  have y : (Int64.ofNat 0 : Int64).toInt32 = 0 := by decide
  by_cases q : 0 ≤ lg_cmp v (Int64.ofNat 0)
  · have q' := (lg_cmp_ge v (Int64.ofNat 0)).mp q
    rw [if_pos q]
    by_cases w : lg_cmp v 10 ≤ 0
    · have w' := (lg_cmp_le v 10).mp w
      rw [if_pos w]
      by_cases e : v < 10
      · rw [if_pos e, if_neg (Int64.not_lt.mpr q')]
      · rw [if_neg e]
        have : v = 10 := Int64.le_antisymm w' (Int64.not_lt.mp e)
        rw [this]
        decide
    · have w' : ¬ v ≤ 10 := fun h => w ((lg_cmp_le v 10).mpr h)
      rw [if_neg w, if_neg (fun h => w' (Int64.le_of_lt h)), z.symm]
      decide
  · have q' : ¬ Int64.ofNat 0 ≤ v := fun h => q ((lg_cmp_ge v (Int64.ofNat 0)).mpr h)
    rw [if_neg q]
    have e : v < Int64.ofNat 0 := Int64.not_le.mp q'
    have e2 : v < 10 := Int64.lt_trans e (by decide)
    rw [if_pos e2, if_pos e, y]
section CHANCE
variable {i : Nat} {h : pH} {P T K Y D p : Nat} {S : pH} {ev : pE} {ab : Int32} {r : List Nat}
noncomputable def S_od (ev : pE) (S : pH) (ab : Int32) (t k w y : Nat) : Int32 := S_cl (((S_ho S t).toInt64 - (S_P ev S ab t (nI k) (nI w) (nI y)).toInt64) + Int64.ofNat 1)
def S_cs (o : Int32) (y : Nat) (x : Int32 × Int32 × Int32) : Int32 × Int32 × Int32 := if x.2.2 ≤ o then (x.1 * o / nI 10, x.2.1, x.2.2) else (x.1 * o / nI 10, nI y, o)
noncomputable def S_cy (ev : pE) (S : pH) (ab : Int32) (t : Nat) : Nat → Nat → Nat → Nat → Int32 × Int32 × Int32 → Int32 × Int32 × Int32
  | 0, _, _, _, x => x
  | m + 1, k, w, y, x => S_cy ev S ab t m (k + 1) (w - 1) (y + 1) (S_cs (S_od ev S ab t k w y) y x)
noncomputable def S_cr (ev : pE) (S : pH) (ab : Int32) (D : Nat) : List Nat → Nat → Int32 × Int32 × Int32 → Int32 × Int32 × Int32
  | [], _, x => x
  | t :: l, y, x => S_cr ev S ab D l (y + min (B_n (S 4 t)) (D - y)) (S_cy ev S ab t (min (B_n (S 4 t)) (D - y)) 0 (B_n (S 4 t)) y x)
theorem S_cr_D (l : List Nat) (x : Int32 × Int32 × Int32) : S_cr ev S ab D l D x = x := by
  induction l generalizing x with
  | nil => rfl
  | cons t l ih =>
    unfold S_cr
    rw [Nat.sub_self, Nat.min_zero, Nat.add_zero]
    exact ih _
theorem cr_oddsOfTen_s {t k L y : Nat} (ht : t < T) (hL : S 4 t = nI L) (hk : k ≤ L) (hL40 : L ≤ 40) (hab : h 22 6 = ab) (C : C_h h P T K Y S ev) (W : R_w P T K Y S) : ∃ h', cr_oddsOfTen (nI t) (nI k) (nI y) h = some (S_od ev S ab t k (L - k) y, h') ∧ B_fr E_k h h' := by
  have F0 := B_con_fr h S ab t
  have C0 := C.fr (F0.mono E_k_sc)
  have h10 := W.2.1
  obtain ⟨v, hv, e6⟩ := W.2.2.2.2.2.2.2.2.2.1 t ht
  have h6 := W.1
  obtain ⟨h1, p1, f1⟩ := C0.2 (B_con h S ab t) rfl rfl (nI k) (nI L - nI k) (nI y)
  have s1 : nI L - nI k = nI (L - k) := pk_sub (by omega)
  have e8 : (B_con h S ab t) 17 8 = S 5 t := by unfold B_con; rw [B_w_at, if_neg (by decide), B_w_at, if_neg (by decide), B_w_at, if_neg (by decide), B_w_at, if_pos rfl]
  have e12 : (B_con h S ab t) 17 12 = B_pc ab := by unfold B_con; rw [B_w_at, if_neg (by decide), B_w_at, if_pos rfl]
  have e13 : (B_con h S ab t) 17 13 = S 6 t := by unfold B_con; rw [B_w_at, if_neg (by decide), B_w_at, if_neg (by decide), B_w_at, if_pos rfl]
  have e14 : (B_con h S ab t) 17 14 = S_ab S ab t := by unfold B_con; rw [B_w_at, if_pos rfl]
  rw [e8, e12, e13, e14] at p1
  refine ⟨h1, ?_, F0.trans (f1.mono E_fc_k)⟩
  have g10 : (B_con h S ab t) 10 t = nI v := by rw [C0.1.2.2.2.2.2.2.2.2.2.2.1 t ht, e6]
  have g4 : (B_con h S ab t) 4 v = S 0 v := C0.1.2.2.2.2.1 v hv
  have g8 : (B_con h S ab t) 8 t = nI L := by rw [C0.1.2.2.2.2.2.2.2.2.1 t ht, hL]
  have eh : S_ho S t = S 0 v := by
    unfold S_ho
    rw [e6, B_n_nI (by omega)]
  have e87 : ∀ x hh, cr_oddsOfTen_87 x hh = some (x, hh) := fun _ _ => rfl
  unfold cr_oddsOfTen
  rw [cr_consider_s ht hab C.1 W, B_bind, wa_10 (by omega), B_bind, g10, wa_4 (by omega), B_bind, g4]
  try dsimp only
  rw [wa_8 (by omega), B_bind, g8, p1, B_bind]
  try dsimp only
  rw [bc_10, bc_0, e87, e87, e87]
  unfold S_od S_P
  rw [← S_cl_c, eh, s1]
  split
  · split <;> rfl
  · rfl
/-- the class, over the yards of one thing -/
theorem wu_chance_yards {r32 : Int32 → Int32 → Int32 → Int32 → Int32 → pH → pR} {t L mm j : Nat} (ht : t < T) (hL : S 4 t = nI L) (hL40 : L ≤ 40) (hmm : mm ≤ L) (W : R_w P T K Y S) : ∀ (m k y n : Nat) (x : Int32 × Int32 × Int32) (h : pH), k + m = mm → m < n → h 22 6 = ab → C_h h P T K Y S ev → ∃ h', wu_chance_88 r32 n x.1 x.2.1 x.2.2 (nI y) (nI j) (nI t) (nI mm) (nI k) h = r32 (S_cy ev S ab t m k (L - k) y x).1 (S_cy ev S ab t m k (L - k) y x).2.1 (S_cy ev S ab t m k (L - k) y x).2.2 (nI (y + m)) (nI (j + 1)) h' ∧ B_fr E_k h h' := by
  intro m
  induction m with
  | zero =>
    intro k y n x h hk hn hab C
    obtain ⟨n, rfl⟩ : ∃ n', n = n' + 1 := ⟨n - 1, by omega⟩
    refine ⟨h, ?_, B_fr.refl _ _⟩
    show (if nI mm ≤ nI k then _ else _) = _
    rw [if_pos (nI_le (by omega) (by omega)), bc_1, nI_add]
    rfl
  | succ m ih =>
    intro k y n x h hk hn hab C
    obtain ⟨n, rfl⟩ : ∃ n', n = n' + 1 := ⟨n - 1, by omega⟩
    obtain ⟨h1, p1, f1⟩ := cr_oddsOfTen_s (k := k) (y := y) ht hL (by omega) hL40 hab C W
    obtain ⟨h2, q1, q2⟩ := ih (k + 1) (y + 1) n (S_cs (S_od ev S ab t k (L - k) y) y x) h1 (by omega) (by omega) (by rw [f1 22 6 rfl, hab]) (C.fr (f1.mono E_k_sc))
    refine ⟨h2, ?_, f1.trans q2⟩
    show (if nI mm ≤ nI k then _ else px_bind (cr_oddsOfTen (nI t) (nI k) (nI y) h) _) = _
    rw [if_neg (nI_ge (by omega) (by omega)), p1, B_bind]
    have eS : S_cy ev S ab t (m + 1) k (L - k) y x = S_cy ev S ab t m (k + 1) (L - k - 1) (y + 1) (S_cs (S_od ev S ab t k (L - k) y) y x) := rfl
    rw [eS, show L - k - 1 = L - (k + 1) by omega, show y + (m + 1) = y + 1 + m by omega, ← q1]
    have e125 : ∀ a b c z, wu_chance_125 r32 (wu_chance_88 r32 n) a b c (nI y) (nI j) (nI t) (nI mm) (nI k) z h1 = wu_chance_88 r32 n (a * z / nI 10) b c (nI (y + 1)) (nI j) (nI t) (nI mm) (nI (k + 1)) h1 := fun a b c z => by
      unfold wu_chance_125
      rw [bc_10, if_neg (by decide), bc_1, nI_add, nI_add]
    rw [e125, e125]
    unfold S_cs
    split <;> rfl
/-- the class, over the row -/
theorem wu_chance_row (hD : D ≤ 60) (hr : r_in r T) (W : R_w P T K Y S) : ∀ (l : List Nat) (j y n : Nat) (x : Int32 × Int32 × Int32) (h : pH), r.drop j = l → j + l.length = r.length → l.length < n → y ≤ D → C_row h r → h 22 6 = ab → h 22 9 = nI D → C_h h P T K Y S ev → ∃ h', wu_chance_32 n x.1 x.2.1 x.2.2 (nI y) (nI j) h = some ((S_cr ev S ab D l y x).1, h') ∧ B_rc h' [(S_cr ev S ab D l y x).2.1] ∧ B_fr B_sc h h' := by
  intro l
  induction l with
  | nil =>
    intro j y n x h hj hl hn hy Cr hab hd C
    obtain ⟨n, rfl⟩ : ∃ n', n = n' + 1 := ⟨n - 1, by omega⟩
    rw [List.length_nil] at hl
    obtain ⟨h', t1, t2, t3⟩ := tl_tell_s h x.2.1
    refine ⟨h', ?_, t2, t3.mono B_frw_sc⟩
    show (if h 22 5 ≤ nI j then _ else _) = _
    have := Cr.2.1
    rw [Cr.1, if_pos (nI_le (by omega) (by omega)), t1, B_bind]
    rfl
  | cons t l ih =>
    intro j y n x h hj hl hn hy Cr hab hd C
    obtain ⟨n, rfl⟩ : ∃ n', n = n' + 1 := ⟨n - 1, by omega⟩
    rw [List.length_cons] at hl hn
    have h10 := W.2.1
    have h66 := Cr.2.1
    have hjr : j < r.length := by omega
    have htj : r.getD j 0 = t := by
      rw [List.getD_eq_getElem?_getD, ← List.head?_drop, hj]
      rfl
    have ht : t < T := by rw [← htj]; exact hr j hjr
    obtain ⟨L, hL, eL⟩ := W.2.2.2.2.2.2.2.2.1 t ht
    have eLn : B_n (S 4 t) = L := by rw [eL, B_n_nI (by omega)]
    obtain ⟨h1, p1, p2⟩ := wu_chance_yards (r32 := wu_chance_32 n) (j := j) (ab := ab) (ev := ev) (mm := min L (D - y)) ht eL (by omega) (Nat.min_le_left _ _) W (min L (D - y)) 0 y px_F x h (by omega) (px_F_lt (by omega)) hab C
    have F1 := p2.mono E_k_sc
    have Cr1 : C_row h1 r := ⟨by rw [p2 22 5 rfl]; exact Cr.1, Cr.2.1, fun k hk => by rw [p2 23 k rfl]; exact Cr.2.2 k hk⟩
    have hdrop : r.drop (j + 1) = l := by
      rw [← List.drop_drop, hj]
      rfl
    obtain ⟨h2, q1, q2, q3⟩ := ih (j + 1) (y + min L (D - y)) n (S_cy ev S ab t (min L (D - y)) 0 (L - 0) y x) h1 hdrop (by omega) (by omega) (by omega) Cr1 (by rw [p2 22 6 rfl, hab]) (by rw [p2 22 9 rfl, hd]) (C.fr F1)
    refine ⟨h2, ?_, ?_, F1.trans q3⟩
    · show (if h 22 5 ≤ nI j then _ else px_bind (wu_at 23 (nI j) h) _) = _
      rw [Cr.1, if_neg (nI_ge (by omega) (by omega)), wa_23 (by omega), B_bind, Cr.2.2 j hjr, htj, wa_8 (by omega), B_bind, C.1.2.2.2.2.2.2.2.2.1 t ht, eL]
      dsimp only
      rw [hd, show nI D - nI y = nI (D - y) from pk_sub (by omega), px_min_nI (by omega) (by omega), bc_0, ← nI_0, p1, q1]
      have eS : S_cr ev S ab D (t :: l) y x = S_cr ev S ab D l (y + min (B_n (S 4 t)) (D - y)) (S_cy ev S ab t (min (B_n (S 4 t)) (D - y)) 0 (B_n (S 4 t)) y x) := rfl
      rw [eS, eLn]
      rfl
    · have eS : S_cr ev S ab D (t :: l) y x = S_cr ev S ab D l (y + min (B_n (S 4 t)) (D - y)) (S_cy ev S ab t (min (B_n (S 4 t)) (D - y)) 0 (B_n (S 4 t)) y x) := rfl
      rw [eS, eLn]
      exact q2
theorem mo_chance_end {x1 x3 j k : Int32} {n : Nat} (x : Int32 × Int32 × Int32) : ∃ h', mo_chance_89 (n + 1) x1 x3 (nI D) x.1 x.2.2 x.2.1 j k (nI D) h = some (x.1, h') ∧ B_rm h' [x.2.1] ∧ B_fr B_sd h h' := by
  obtain ⟨h2, e2, r2, f2⟩ := mo_tell_s x.2.1 (B_rm_nil h) (by decide)
  refine ⟨h2, ?_, r2, B_fr.trans ((B_fr.refl _ h).w rfl) (f2.mono B_frm_sd)⟩
  show (if nI D ≤ nI D then _ else _) = _
  rw [if_pos (Int32.le_refl _), bc_0]
  dsimp only
  unfold mo_chance_229
  rw [e2, B_bind]
def M_ch (h : pH) (P T K Y : Nat) (S : pH) (ev : pE) (r : List Nat) (Z : pH) : Prop := M_h h P T K Y S ev ∧ R_a h 68 P T Z ∧ M_row h r ∧ ∀ a k, a ≠ 4 → Z a k = S a k
theorem mo_chance_yard {Z : pH} {t j k w y n n' : Nat} (hp : p < P) (hj : j < r.length) (htj : r.getD j 0 = t) (ht : t < T) (he : S 6 t = nI p) (hw : Z 4 t = nI (w + 1)) (hw40 : w + 1 ≤ 40) (hk : k + 1 < 2 ^ 31) (hy : y < 60) (W : R_w P T K Y S) (x : Int32 × Int32 × Int32) (G : M_ch h P T K Y S ev r Z) : ∃ h', mo_chance_96 (mo_chance_89 n) (n' + 1) (nI p) ab (nI D) x.1 x.2.2 x.2.1 (nI j) (nI k) (nI y) h = mo_chance_89 n (nI p) ab (nI D) (S_cs (S_od ev S ab t k (w + 1) y) y x).1 (S_cs (S_od ev S ab t k (w + 1) y) y x).2.2 (S_cs (S_od ev S ab t k (w + 1) y) y x).2.1 (nI j) (nI (k + 1)) (nI (y + 1)) h' ∧ M_ch h' P T K Y S ev r (px_w Z 4 t (nI w)) ∧ B_fr (E_g 68) h h' := by
  obtain ⟨M, A, Mr, hZ⟩ := G
  have h6 := W.1
  have h10 := W.2.1
  have hr6 := Mr.2.1
  have hs : B_sl 68 := Or.inr (Or.inl rfl)
  obtain ⟨h1, p1, f1⟩ := mo_pressureOf_s (ab := ab) ht hs M A W (nI k) (nI y)
  rw [hw, hZ 6 t (by decide)] at p1
  have pP : ev (S 5 t) (nI k) (nI (w + 1)) (nI y) (B_pc ab) (S 6 t) (S_ab S ab t) = S_P ev S ab t (nI k) (nI (w + 1)) (nI y) := rfl
  rw [pP] at p1
  have e65 : h 65 j = nI t := by rw [Mr.2.2 j hj, htj]
  have e12 : h 68 (12 + t) = nI (w + 1) := by rw [A.2.2.1 t ht, hw]
  have e54 : h 54 p = S 0 p := M.1.2.2.2.2.1 p hp
  have eho : S_ho S t = S 0 p := by
    unfold S_ho
    rw [he, B_n_nI (by omega)]
  have g65 : h1 65 j = nI t := by rw [f1 65 j rfl, e65]
  have g12 : h1 68 (12 + t) = nI (w + 1) := by rw [f1 68 _ rfl, e12]
  have qs : nI (w + 1) - nI 1 = nI w := by
    rw [pk_sub (by omega)]
    congr 1
  have F1 := f1.mono (E_fm_g 68)
  have F2 : B_fr (E_g 68) h (px_w h1 68 (12 + t) (nI w)) := F1.w rfl
  refine ⟨px_w h1 68 (12 + t) (nI w), ?_, ⟨M.fr hs F2, (A.cell (f1.row 68 (fun _ => rfl))).w4 h6 h10 (by omega) (nI w), Mr.fr hs F2, fun a k ha => by rw [B_w_cell _ _ _ ha]; exact hZ a k ha⟩, F2⟩
  have e196 : ∀ a b c, mo_chance_196 (mo_chance_89 n) (nI p) ab (nI D) a b c (nI j) (nI k) (nI y) h1 = mo_chance_89 n (nI p) ab (nI D) a b c (nI j) (nI (k + 1)) (nI (y + 1)) (px_w h1 68 (12 + t) (nI w)) := fun a b c => by
    unfold mo_chance_196
    rw [po_65 (by omega), B_ift, nI_clamp (show j < 2 ^ 31 by omega), g65, bc_12, nI_add, po_68 (by omega), B_ift, B_ift, nI_clamp (show 12 + t < 2 ^ 31 by omega), g12, bc_1, qs, nI_add, nI_add]
  show px_if (px_ok 0 65 (nI j)) _ = _
  rw [po_65 (by omega), B_ift, nI_clamp (show j < 2 ^ 31 by omega), e65, bc_12, nI_add, po_68 (by omega), B_ift, nI_clamp (show 12 + t < 2 ^ 31 by omega), e12, if_neg (nI_ne0 (by omega) (by omega)), po_54 (by omega), B_ift, B_ift, p1, B_bind, nI_clamp (show p < 2 ^ 31 by omega), e54]
  dsimp only
  unfold mo_chance_156
  show mo_chance_171 _ _ _ _ _ _ _ _ _ _ (S_cl _) _ = _
  rw [← eho]
  show mo_chance_171 _ _ _ _ _ _ _ _ _ _ (S_od ev S ab t k (w + 1) y) _ = _
  unfold mo_chance_171
  rw [bc_10, if_neg (by decide)]
  dsimp only
  rw [e196, e196]
  unfold S_cs
  split <;> rfl
def M_cq (P T K Y : Nat) (S : pH) (ev : pE) (ab : Int32) (r : List Nat) (p D : Nat) (l : List Nat) (t w : Nat) : Prop := ∀ (j k y n n' : Nat) (x : Int32 × Int32 × Int32) (Z : pH) (h : pH), r.drop j = t :: l → y < D → D - y ≤ n → l.length + 1 ≤ n' → Z 4 t = nI w → w ≤ 40 → k + w ≤ 40 → (∀ t', t' ∈ l → Z 4 t' = S 4 t') → D - y ≤ w + (l.map fun t => B_n (S 4 t)).sum → M_ch h P T K Y S ev r Z → ∃ h', mo_chance_96 (mo_chance_89 n) n' (nI p) ab (nI D) x.1 x.2.2 x.2.1 (nI j) (nI k) (nI y) h = some ((S_cr ev S ab D l (y + min w (D - y)) (S_cy ev S ab t (min w (D - y)) k w y x)).1, h') ∧ B_rm h' [(S_cr ev S ab D l (y + min w (D - y)) (S_cy ev S ab t (min w (D - y)) k w y x)).2.1] ∧ B_fr B_sd h h'
theorem M_cq_step {l : List Nat} {t : Nat} (hp : p < P) (hD : D ≤ 60) (W : R_w P T K Y S) (hr : r_in r T) (hr6 : r.length ≤ 6) (hnd : r.Nodup) (hun : ∀ j, j < r.length → S 6 (r.getD j 0) = nI p) (h0 : M_cq P T K Y S ev ab r p D l t 0) : ∀ w, M_cq P T K Y S ev ab r p D l t w := by
  have hs : B_sl 68 := Or.inr (Or.inl rfl)
  have h10 := W.2.1
  intro w
  induction w with
  | zero => exact h0
  | succ w ih =>
    intro j k y n n' x Z h hj hy hn hn' hw hw40 hkw hl hsum G
    obtain ⟨n', rfl⟩ : ∃ n'', n' = n'' + 1 := ⟨n' - 1, by omega⟩
    obtain ⟨n, rfl⟩ : ∃ n'', n = n'' + 1 := ⟨n - 1, by omega⟩
    have hlen : j + (l.length + 1) = r.length := by
      have := congrArg List.length hj
      rw [List.length_drop, List.length_cons] at this
      omega
    have hjr : j < r.length := by omega
    have htj : r.getD j 0 = t := by
      rw [List.getD_eq_getElem?_getD, ← List.head?_drop, hj]
      rfl
    have ht : t < T := by rw [← htj]; exact hr j hjr
    have he : S 6 t = nI p := by rw [← htj]; exact hun j hjr
    have htl : t ∉ l := by
      have : (r.drop j).Nodup := List.Sublist.nodup (List.drop_sublist j r) hnd
      rw [hj] at this
      exact (List.nodup_cons.mp this).1
    obtain ⟨h1, p1, g1, f1⟩ := mo_chance_yard (k := k) (y := y) (n := n + 1) (n' := n') (ab := ab) (D := D) hp hjr htj ht he hw hw40 (by omega) (by omega) W x G
    have eS : S_cy ev S ab t (min (w + 1) (D - y)) k (w + 1) y x = S_cy ev S ab t (min w (D - (y + 1))) (k + 1) w (y + 1) (S_cs (S_od ev S ab t k (w + 1) y) y x) := by
      rw [show min (w + 1) (D - y) = min w (D - (y + 1)) + 1 by omega]
      rfl
    have eY : y + min (w + 1) (D - y) = y + 1 + min w (D - (y + 1)) := by omega
    rw [eS, eY, p1]
    generalize S_cs (S_od ev S ab t k (w + 1) y) y x = x' at *
    by_cases q : y + 1 = D
    · have em : min w (D - (y + 1)) = 0 := by omega
      rw [em, Nat.add_zero, q, S_cr_D]
      obtain ⟨h2, u1, u2, u3⟩ := mo_chance_end (h := h1) (D := D) (n := n) (x1 := nI p) (x3 := ab) (j := nI j) (k := nI (k + 1)) x'
      exact ⟨h2, u1, u2, (f1.mono (E_g_sd hs (by decide))).trans u3⟩
    · have hz : mo_chance_89 (n + 1) (nI p) ab (nI D) x'.1 x'.2.2 x'.2.1 (nI j) (nI (k + 1)) (nI (y + 1)) h1 = mo_chance_96 (mo_chance_89 n) px_F (nI p) ab (nI D) x'.1 x'.2.2 x'.2.1 (nI j) (nI (k + 1)) (nI (y + 1)) h1 := by
        show (if nI D ≤ nI (y + 1) then _ else _) = _
        rw [if_neg (nI_ge (by omega) (by omega))]
      rw [hz]
      obtain ⟨h2, u1, u2, u3⟩ := ih j (k + 1) (y + 1) n px_F x' (px_w Z 4 t (nI w)) h1 hj (by omega) (by omega) (Nat.le_of_lt (px_F_lt (by omega))) (B_w_same _ _ _ _) (by omega) (by omega) (fun t' ht' => by rw [B_w_at, if_neg (fun e : t' = t => htl (e ▸ ht'))]; exact hl t' ht') (by omega) g1
      exact ⟨h2, u1, u2, (f1.mono (E_g_sd hs (by decide))).trans u3⟩
theorem M_cq_all (hp : p < P) (hD : D ≤ 60) (W : R_w P T K Y S) (hr : r_in r T) (hr6 : r.length ≤ 6) (hnd : r.Nodup) (hun : ∀ j, j < r.length → S 6 (r.getD j 0) = nI p) : ∀ (l : List Nat) (t w : Nat), M_cq P T K Y S ev ab r p D l t w := by
  have hs : B_sl 68 := Or.inr (Or.inl rfl)
  have h10 := W.2.1
  intro l
  induction l with
  | nil =>
    intro t
    refine M_cq_step hp hD W hr hr6 hnd hun ?_
    intro j k y n n' x Z h hj hy hn hn' hw hw40 hkw hl hsum G
    simp at hsum
    omega
  | cons t2 l ih =>
    intro t
    refine M_cq_step hp hD W hr hr6 hnd hun ?_
    intro j k y n n' x Z h hj hy hn hn' hw hw40 hkw hl hsum G
    obtain ⟨n', rfl⟩ : ∃ n'', n' = n'' + 1 := ⟨n' - 1, by omega⟩
    have hlen : j + (l.length + 1 + 1) = r.length := by
      have := congrArg List.length hj
      rw [List.length_drop, List.length_cons, List.length_cons] at this
      omega
    have hjr : j < r.length := by omega
    have htj : r.getD j 0 = t := by
      rw [List.getD_eq_getElem?_getD, ← List.head?_drop, hj]
      rfl
    have ht : t < T := by rw [← htj]; exact hr j hjr
    have hdrop : r.drop (j + 1) = t2 :: l := by
      rw [← List.drop_drop, hj]
      rfl
    have htj2 : r.getD (j + 1) 0 = t2 := by
      rw [List.getD_eq_getElem?_getD, ← List.head?_drop, hdrop]
      rfl
    have ht2 : t2 < T := by rw [← htj2]; exact hr (j + 1) (by omega)
    obtain ⟨L2, hL2, eL2⟩ := W.2.2.2.2.2.2.2.2.1 t2 ht2
    have eLn : B_n (S 4 t2) = L2 := by rw [eL2, B_n_nI (by omega)]
    rw [List.map_cons, List.sum_cons, eLn] at hsum
    have e65 : h 65 j = nI t := by rw [G.2.2.1.2.2 j hjr, htj]
    have e12 : h 68 (12 + t) = 0 := by rw [G.2.1.2.2.1 t ht, hw, nI_0]
    have hz : mo_chance_96 (mo_chance_89 n) (n' + 1) (nI p) ab (nI D) x.1 x.2.2 x.2.1 (nI j) (nI k) (nI y) h = mo_chance_96 (mo_chance_89 n) n' (nI p) ab (nI D) x.1 x.2.2 x.2.1 (nI (j + 1)) (nI 0) (nI y) h := by
      show px_if (px_ok 0 65 (nI j)) _ = _
      rw [po_65 (by omega), B_ift, nI_clamp (show j < 2 ^ 31 by omega), e65, bc_12, nI_add, po_68 (by omega), B_ift, nI_clamp (show 12 + t < 2 ^ 31 by omega), e12, if_pos rfl, bc_1, nI_add, bc_0, nI_0]
    rw [hz, Nat.zero_min, Nat.add_zero]
    rw [List.length_cons] at hn'
    obtain ⟨h2, u1, u2, u3⟩ := ih t2 L2 (j + 1) 0 y n n' x Z h hdrop hy hn (by omega) (by rw [hl t2 (by simp), eL2]) (by omega) (by omega) (fun t' ht' => hl t' (by simp [ht'])) (by omega) G
    have eC : S_cr ev S ab D (t2 :: l) y x = S_cr ev S ab D l (y + min L2 (D - y)) (S_cy ev S ab t2 (min L2 (D - y)) 0 L2 y x) := by
      show S_cr ev S ab D l (y + min (B_n (S 4 t2)) (D - y)) _ = _
      rw [eLn]
    have e0 : S_cy ev S ab t 0 k 0 y x = x := rfl
    rw [e0, Nat.add_zero y, eC]
    exact ⟨h2, u1, u2, u3⟩
theorem S_dist_pos (W : R_w P T K Y S) {f b : Nat} (hf : f < 2 + K) (hb : b < 2) (hfb : ¬ f = b) : 0 < S_dist S Y f b := by
  have hY := W.2.2.2.1
  have e0 : S_yd S Y 0 = 0 := rfl
  have e1 : S_yd S Y 1 = Y := rfl
  have ef : f = 0 ∨ f = 1 ∨ (1 ≤ S_yd S Y f ∧ S_yd S Y f < Y) := by
    by_cases h0 : f = 0
    · exact Or.inl h0
    · by_cases h1 : f = 1
      · exact Or.inr (Or.inl h1)
      · have := (S_is W (k := f - 2) (by omega)).2
        rw [show 2 + (f - 2) = f by omega] at this
        exact Or.inr (Or.inr this)
  unfold S_dist
  have eb : b = 0 ∨ b = 1 := by omega
  rcases ef with rfl | rfl | ef <;> rcases eb with rfl | rfl <;> omega
theorem S_rd_un {sg : Nat → Nat} (W : R_w P T K Y S) : ∀ (m k : Nat) (r : List Nat), (∀ t, t ∈ r → S_un S T ab (nI t) = true) → ∀ t, t ∈ (S_rd S T ab sg m k r).2 → S_un S T ab (nI t) = true := by
  have h10 := W.2.1
  intro m
  induction m with
  | zero => intro k r hr; exact hr
  | succ m ih =>
    intro k r hr
    unfold S_rd
    by_cases q : (decide (r.length < 6) && S_can S T ab r (nI (sg k) - nI 113)) = true
    · rw [if_pos q]
      rw [Bool.and_eq_true] at q
      obtain ⟨t, ht, e, -, -, e2⟩ := S_can_ex W q.2
      refine ih (k + 1) _ (fun t' ht' => ?_)
      rw [List.mem_append, List.mem_singleton] at ht'
      rcases ht' with w | w
      · exact hr t' w
      · rw [w, e, B_n_nI (by omega), ← e]
        exact e2
    · rw [if_neg q]
      exact hr
theorem B_chance (hI : Inv i h) (v0 v1 : Int32) : ∃ r h1 h2, wu_chance v0 v1 h = some (r, h1) ∧ mo_chance v0 v1 h1 = some (r, h2) ∧ Inv (i + 5) h2 := by
  obtain ⟨P, T, K, Y, n, S, ev, I, r⟩ := hI
  obtain ⟨R, M, W, X, V, E, L⟩ := id I
  have h6 := W.1
  have h5 := W.2.2.1
  have h10 := W.2.1
  obtain ⟨sg1, sg2, sg3⟩ := X.sg
  obtain ⟨h1, a1, a2, a3, a4⟩ := wu_embark_s (sg := B_sg h) v0 (-1) v1 X.1 X.2.1 sg1 R W
  have F1 := a3.mono E_emb_sc1
  have hmo : ∀ hh, B_fr B_sc1 h hh → ∃ h3, mo_readLine0 (if S_beg S P v0 (-1) v1 = true then S_abd v0 (-1) else 0) (if S_beg S P v0 (-1) v1 = true then S 1 (B_n v0) else 0) v1 (B_t0 hh) = some (S_emb S P T Y n (B_sg h) v0 (-1) v1, h3) ∧ h3 51 11 = 0 ∧ B_fr E_ln (B_t0 hh) h3 ∧ (S_emb S P T Y n (B_sg h) v0 (-1) v1 = 0 → M_row h3 (S_rd S T (S_abd v0 (-1)) (B_sg h) n 0 []).2) := fun hh f => mo_readLine0_s v0 (-1) v1 X.1 (by rw [B_t0_at _ (by decide), B_sc1_m f (by decide)]; exact X.2.2.1) sg2 (fun j hj => by rw [B_t0_row _ (by decide), B_sc1_m f (by decide)]; exact sg3 j hj) ((M.c1 f).sm (B_t0_fr hh).sm_d) W
  have hmo2 : ∀ hh, B_fr B_sc1 h hh → mo_chance v0 v1 hh = px_bind (mo_readLine0 (if S_beg S P v0 (-1) v1 = true then S_abd v0 (-1) else 0) (if S_beg S P v0 (-1) v1 = true then S 1 (B_n v0) else 0) v1 (B_t0 hh)) fun z1 h2 => if 0 ≤ z1 then px_bind (mo_lay 52 68 (px_c 0) h2) fun _ h4 => px_if (px_ok 0 52 v0) (px_bind (mo_distance (h4 52 v0.toNatClampNeg) v1 h4) fun z5 h6 => mo_chance_89 px_F v0 (if S_beg S P v0 (-1) v1 = true then S_abd v0 (-1) else 0) z5 (px_c 10000) (px_c 10) (px_c (-1)) (px_c 0) (px_c 0) (px_c 0) h6) else some (z1, h2) := by
    intro hh f
    have M' := (M.c1 f).sm (B_t0_fr hh).sm_d
    unfold mo_chance
    rw [bc_0, bc_m1]
    show px_bind (mo_aboardOf v0 (-1) v1 (B_t0 hh)) _ = _
    rw [mo_aboardOf_s _ _ _ M' W, B_bind]
    unfold mo_chance_29
    cases q : S_beg S P v0 (-1) v1 with
    | false => simp only [Bool.false_eq_true, if_false, if_true, bc_0, bc_m1]
    | true =>
      obtain ⟨p, b, f2, hp, hb, hf, rfl, rfl, ef, hfb, -⟩ := S_beg_ex W q
      simp only [if_true]
      rw [if_neg (S_abd_ne (by omega) (-1)), po_52 (by omega), B_ift, nI_clamp (by omega), M'.2.1 p hp, B_n_nI (by omega), bc_0, bc_m1]
  by_cases hz : S_emb S P T Y n (B_sg h) v0 (-1) v1 = 0
  · have q : S_beg S P v0 (-1) v1 = true := by
      cases q : S_beg S P v0 (-1) v1 with
      | true => rfl
      | false =>
        unfold S_emb at hz
        rw [q, if_neg (by decide)] at hz
        exact absurd hz (by decide)
    obtain ⟨p, b, f, hp, hb, hf, rfl, rfl, ef, hfb, -⟩ := S_beg_ex W q
    have ep : B_n (nI p) = p := B_n_nI (by omega)
    have eb : B_n (nI b) = b := B_n_nI (by omega)
    have efn : B_n (nI f) = f := B_n_nI (by omega)
    obtain ⟨c1, c2, c3, c4, c5⟩ := a4 hz
    rw [ep, eb, ef, efn] at c5
    have hDD := S_dist_pos W hf hb hfb
    have hD : S_dist S Y f b ≤ 60 := by
      have l1 := S_yd_le W hf
      have l2 := S_yd_le W (show b < 2 + K by omega)
      unfold S_dist
      omega
    have hok := (S_rd_ok (sg := B_sg h) (ab := S_abd (nI p) (-1)) W n 0 [] (r_ok_nil T) rfl).1
    have hun0 := S_rd_un (sg := B_sg h) (ab := S_abd (nI p) (-1)) W n 0 [] (fun t ht => absurd ht (by simp))
    have hwd : S_dist S Y f b ≤ S_wds S (S_rd S T (S_abd (nI p) (-1)) (B_sg h) n 0 []).2 := by
      unfold S_emb at hz
      rw [q, if_pos rfl, ep, eb, ef, efn] at hz
      by_cases w1 : (S_rd S T (S_abd (nI p) (-1)) (B_sg h) n 0 []).1 = 0
      · rw [if_pos w1] at hz
        by_cases w2 : S_dist S Y f b ≤ S_wds S (S_rd S T (S_abd (nI p) (-1)) (B_sg h) n 0 []).2
        · exact w2
        · rw [if_neg w2] at hz
          exact absurd hz (by decide)
      · rw [if_neg w1] at hz
        exact absurd hz w1
    generalize hr : (S_rd S T (S_abd (nI p) (-1)) (B_sg h) n 0 []).2 = rr at *
    have hun : ∀ j, j < rr.length → S 6 (rr.getD j 0) = nI p := fun j hj => by
      have ht := hok.1 j hj
      have hm : rr.getD j 0 ∈ rr := by
        rw [List.getD_eq_getElem?_getD, List.getElem?_eq_getElem hj]
        exact List.getElem_mem hj
      have := hun0 _ hm
      unfold S_un at this
      rw [Bool.and_eq_true, Bool.and_eq_true, B_n_nI (by omega)] at this
      obtain ⟨v, hv, e⟩ := W.2.2.2.2.2.2.2.2.2.1 _ ht
      have hb2 := this.2.1
      rw [e, B_n_nI (by omega)] at hb2
      unfold S_abd at hb2
      rw [if_pos rfl, B_bit_or, B_bit_sh (by omega) (by omega)] at hb2
      simp [B_bit_0] at hb2
      rw [e, hb2]
    have hne : rr ≠ [] := fun e => by
      rw [e] at hwd
      have : S_wds S [] = 0 := rfl
      omega
    obtain ⟨t, l, etl⟩ : ∃ t l, rr = t :: l := by
      cases rr with
      | nil => exact absurd rfl hne
      | cons t l => exact ⟨t, l, rfl⟩
    have C1 : C_h h1 P T K Y S ev := C_h.c1 ⟨R, L.1⟩ a3
    obtain ⟨h3, t1, t2, t3⟩ := wu_chance_row (r := rr) (ev := ev) hD hok.1 W rr 0 0 px_F (nI 10000, -1, nI 10) h1 (List.drop_zero) (by omega) (px_F_lt (by have := hok.2.2; omega)) (by omega) c1 c2 c5 C1
    have F2 : B_fr B_sc1 h h3 := F1.trans (t3.mono B_sc_1)
    obtain ⟨h4, m1, m2, m3, m4⟩ := hmo h3 F2
    have Mr := m4 hz
    have M4 : R_m h4 P T K Y S := ((M.c1 F2).sm (B_t0_fr h3).sm_d).ln m3
    have ML : M_h h4 P T K Y S ev := ⟨M4.1, by
      have := L.2
      rw [m3 51 26 rfl, m3.row 63 (fun _ => rfl), B_t0_at _ (by decide), B_t0_row _ (by decide), B_sc1_m F2 (by decide), show h3 63 = h 63 from funext fun k => B_sc1_m F2 (by decide)]
      exact this⟩
    have hs : B_sl 68 := Or.inr (Or.inl rfl)
    have hlay := mo_lay_t (h := h4) (a0 := 52) (a1 := 68) (Or.inl rfl) hs (by decide)
    have F5 : B_fr (E_g 68) h4 (B_cp h4 (h4 52) 68 0) := B_cp_fr (fun k => rfl)
    have M5 := ML.fr hs F5
    have A5 : R_a (B_cp h4 (h4 52) 68 0) 68 P T S := B_cp_A M4.2 h6 h10 68
    have Mr5 : M_row (B_cp h4 (h4 52) 68 0) rr := Mr.fr hs F5
    have e52 : (B_cp h4 (h4 52) 68 0) 52 p = nI f := by rw [B_cp_ne (by decide), M4.2.1 p hp, ef]
    have ht : t < T := by
      have := hok.1 0 (by rw [etl]; simp)
      rw [etl] at this
      exact this
    obtain ⟨L0, hL0, eL⟩ := W.2.2.2.2.2.2.2.2.1 t ht
    have eLn : B_n (S 4 t) = L0 := by rw [eL, B_n_nI (by omega)]
    have ewd : S_wds S rr = L0 + (l.map fun t => B_n (S 4 t)).sum := by
      rw [etl]
      unfold S_wds
      rw [List.map_cons, List.sum_cons, eLn]
    have hll : l.length + 1 ≤ 6 := by
      have := hok.2.2
      rw [etl, List.length_cons] at this
      exact this
    obtain ⟨h8, n1, n2, n3⟩ := M_cq_all (ev := ev) (ab := S_abd (nI p) (-1)) (D := S_dist S Y f b) hp hD W hok.1 hok.2.2 hok.2.1 hun l t L0 0 0 0 (px_F - 1) px_F (nI 10000, -1, nI 10) S (B_cp h4 (h4 52) 68 0) etl (by omega) (by have : 100 < px_F := px_F_lt (by omega); omega) (Nat.le_of_lt (px_F_lt (by omega))) eL (by omega) (by omega) (fun t' _ => rfl) (by omega) ⟨M5, A5, Mr5, fun _ _ _ => rfl⟩
    have eC : S_cr ev S (S_abd (nI p) (-1)) (S_dist S Y f b) rr 0 (nI 10000, -1, nI 10) = S_cr ev S (S_abd (nI p) (-1)) (S_dist S Y f b) l (0 + min L0 (S_dist S Y f b - 0)) (S_cy ev S (S_abd (nI p) (-1)) t (min L0 (S_dist S Y f b - 0)) 0 L0 0 (nI 10000, -1, nI 10)) := by
      rw [etl]
      show S_cr ev S _ _ l (0 + min (B_n (S 4 t)) _) _ = _
      rw [eLn]
    rw [← eC] at n1 n2
    have c10k : px_c 10000 = nI 10000 := pc_n 10000
    refine ⟨(S_cr ev S (S_abd (nI p) (-1)) (S_dist S Y f b) rr 0 (nI 10000, -1, nI 10)).1, h3, h8, ?_, ?_, ?_⟩
    · unfold wu_chance
      rw [bc_m1, a1, B_bind, hz, if_pos (by decide), bc_0, c10k, bc_10]
      rw [nI_0] at t1
      exact t1
    · rw [hmo2 h3 F2, m1, B_bind, hz, if_pos (by decide), hlay, B_bind, po_52 (by omega), B_ift, nI_clamp (by omega), e52, mo_distance_s hf (show b < 2 + K by omega) M5.1 W, B_bind, q, if_pos rfl]
      have hF : px_F = (px_F - 1) + 1 := by have : 100 < px_F := px_F_lt (by omega); omega
      rw [hF]
      show (if nI (S_dist S Y f b) ≤ px_c 0 then _ else _) = _
      rw [bc_0, if_neg (fun w => by rw [bn_le0 (by omega)] at w; omega), c10k, bc_10, bc_m1]
      rw [nI_0] at n1
      exact n1
    · have FY : B_fr B_sd1 h3 h8 := ((((B_t0_fr h3).mono B_sd_1).trans (m3.mono E_ln_sd1)).trans (F5.mono (fun a k e => B_sd_1 a k (E_g_sd hs (by decide) a k e)))).trans (n3.mono B_sd_1)
      refine B_rd1 (l := [(S_cr ev S (S_abd (nI p) (-1)) (S_dist S Y f b) rr 0 (nI 10000, -1, nI 10)).2.1]) I F2 FY ?_ ?_ t2 n2 (by simp)
      · rw [t3 1 1 rfl, a2]
      · rw [n3 51 11 rfl, F5 51 11 rfl, m2]
  · have hneg : ¬ 0 ≤ S_emb S P T Y n (B_sg h) v0 (-1) v1 := S_emb_neg W hz
    obtain ⟨h4, m1, m2, m3, m4⟩ := hmo h1 F1
    refine ⟨S_emb S P T Y n (B_sg h) v0 (-1) v1, h1, h4, ?_, ?_, ?_⟩
    · unfold wu_chance
      rw [bc_m1, a1, B_bind, if_neg hneg]
    · rw [hmo2 h1 F1, m1, B_bind, if_neg hneg]
    · exact B_rd0 I r F1 (((B_t0_fr h1).mono B_sd_1).trans (m3.mono E_ln_sd1)) a2 m2 (a3 45 1 rfl) (a3.row 46 (fun _ => rfl)) (by rw [m3 51 13 rfl, B_t0_at _ (by decide)]) (by rw [m3.row 59 (fun _ => rfl), B_t0_row _ (by decide)])
end CHANCE
