/-! Layer B: who bursts out and where: ashore, about -/
section SHOREP
variable {hit : List Nat → Bool} {sd : List Nat → Nat}
/-- how many, how many a thing, the first of them in their order -/
abbrev V_T := Nat × (Nat → Nat) × Option (List Nat)
def V_F (F : Nat → Nat) (t : Nat) : Nat → Nat := fun u => if u = t then F u + 1 else F u
def V_o (o : Option (List Nat)) (r : List Nat) : Option (List Nat) := some (match o with
  | none => r
  | some l => L_mn l r)
def V_st (hit : List Nat → Bool) (sd : List Nat → Nat) (r : List Nat) (a : V_T) : V_T := if hit r = true then (a.1 + 1, V_F a.2.1 (sd r), V_o a.2.2 r) else a
def V_sf (hit : List Nat → Bool) (sd : List Nat → Nat) (r : List Nat) (a : V_T) : V_T := if hit r = true then (a.1 + 1, V_F a.2.1 (sd r), some (a.2.2.getD r)) else a
theorem V_F_cc (F : Nat → Nat) (t u : Nat) : V_F (V_F F t) u = V_F (V_F F u) t := by
  funext v
  unfold V_F
  by_cases h1 : v = t
  · by_cases h2 : v = u
    · rw [if_pos h2, if_pos h1, if_pos h1, if_pos h2]
    · rw [if_neg h2, if_pos h1, if_pos h1, if_neg h2]
  · by_cases h2 : v = u
    · rw [if_pos h2, if_neg h1, if_neg h1, if_pos h2]
    · rw [if_neg h2, if_neg h1, if_neg h1, if_neg h2]
theorem V_o_cc (o : Option (List Nat)) (x y : List Nat) : V_o (V_o o x) y = V_o (V_o o y) x := by
  cases o with
  | none =>
    show some (L_mn x y) = some (L_mn y x)
    rw [L_mn_comm]
  | some l =>
    show some (L_mn (L_mn l x) y) = some (L_mn (L_mn l y) x)
    rw [L_mn_cc]
theorem V_st_cc (x y : List Nat) (a : V_T) : V_st hit sd y (V_st hit sd x a) = V_st hit sd x (V_st hit sd y a) := by
  by_cases h1 : hit x = true
  · have e1 : ∀ a, V_st hit sd x a = (a.1 + 1, V_F a.2.1 (sd x), V_o a.2.2 x) := fun a => if_pos h1
    by_cases h2 : hit y = true
    · have e2 : ∀ a, V_st hit sd y a = (a.1 + 1, V_F a.2.1 (sd y), V_o a.2.2 y) := fun a => if_pos h2
      rw [e1, e2, e2, e1]
      dsimp only
      rw [V_F_cc, V_o_cc]
    · have e2 : ∀ a, V_st hit sd y a = a := fun a => if_neg h2
      rw [e2, e2]
  · have e1 : ∀ a, V_st hit sd x a = a := fun a => if_neg h1
    rw [e1, e1]
theorem V_sf_st : ∀ (l : List (List Nat)) (a : V_T), l.Pairwise (fun a b => L_ls a b = true) → (∀ m, a.2.2 = some m → ∀ r, r ∈ l → L_ls m r = true) → l.foldl (fun a r => V_st hit sd r a) a = l.foldl (fun a r => V_sf hit sd r a) a := by
  intro l
  induction l with
  | nil => intro a _ _; rfl
  | cons r l ih =>
    intro a hp hm
    obtain ⟨p1, p2⟩ := List.pairwise_cons.mp hp
    rw [List.foldl_cons, List.foldl_cons]
    have e : V_st hit sd r a = V_sf hit sd r a := by
      unfold V_st V_sf
      by_cases c : hit r = true
      · rw [if_pos c, if_pos c]
        congr 2
        unfold V_o
        cases q : a.2.2 with
        | none => rfl
        | some m =>
          show some (L_mn m r) = some m
          unfold L_mn
          rw [if_neg (by rw [L_ls_asym _ _ (hm m q r List.mem_cons_self)]; decide)]
      · rw [if_neg c, if_neg c]
    rw [e]
    refine ih _ p2 (fun m h r2 hr => ?_)
    unfold V_sf at h
    by_cases c : hit r = true
    · rw [if_pos c] at h
      change some (a.2.2.getD r) = some m at h
      cases q : a.2.2 with
      | none =>
        rw [q] at h
        change some r = some m at h
        cases h
        exact p1 r2 hr
      | some m0 =>
        rw [q] at h
        change some m0 = some m at h
        cases h
        exact hm _ q r2 (List.mem_cons_of_mem _ hr)
    · rw [if_neg c] at h
      exact hm m h r2 (List.mem_cons_of_mem _ hr)
def V_ok (T : Nat) (a : V_T) : Prop := (∀ t, a.2.1 t ≤ a.1) ∧ (∀ t, T ≤ t → a.2.1 t = 0) ∧ (a.2.2 = none → a.1 = 0) ∧ (∀ l, a.2.2 = some l → 0 < a.1 ∧ l.length ≤ 4)
theorem V_ok_0 (T : Nat) : V_ok T (0, fun _ => 0, none) := ⟨fun _ => Nat.le_refl _, fun _ _ => rfl, fun _ => rfl, fun l h => by cases h⟩
theorem V_ok_sf {T : Nat} {a : V_T} {r : List Nat} (h : V_ok T a) (hr : r.length ≤ 4) (hs : hit r = true → sd r < T) : V_ok T (V_sf hit sd r a) := by
  unfold V_sf
  by_cases c : hit r = true
  · rw [if_pos c]
    obtain ⟨h1, h2, h3, h4⟩ := h
    have := hs c
    refine ⟨fun t => ?_, fun t ht => ?_, (fun w => by cases w), fun l e => ?_⟩
    · show V_F a.2.1 (sd r) t ≤ a.1 + 1
      unfold V_F
      have := h1 t
      split <;> omega
    · show V_F a.2.1 (sd r) t = 0
      unfold V_F
      rw [if_neg (by omega)]
      exact h2 t ht
    · refine ⟨Nat.succ_pos _, ?_⟩
      change some (a.2.2.getD r) = some l at e
      cases e
      cases q : a.2.2 with
      | none => exact hr
      | some m => exact (h4 m q).2
  · rw [if_neg c]
    exact h
theorem V_st_cn (r : List Nat) (a : V_T) : (V_st hit sd r a).1 ≤ a.1 + 1 := by
  unfold V_st
  split
  · exact Nat.le_refl _
  · exact Nat.le_succ _
end SHOREP
theorem drop_getD {l : List Nat} {k : Nat} (hk : k < l.length) : l.drop k = l.getD k 0 :: l.drop (k + 1) := by
  rw [List.drop_eq_getElem_cons hk, List.getD_eq_getElem?_getD, List.getElem?_eq_getElem hk]
  rfl
theorem getD_memN {l : List Nat} {k : Nat} (hk : k < l.length) : l.getD k 0 ∈ l := by
  rw [List.getD_eq_getElem?_getD, List.getElem?_eq_getElem hk]
  exact List.getElem_mem hk
/-! the lowest bit, as java counts it -/
def J_t74 (x y : Int32) : Int32 := y + px_ush x (nI 1)
def J_t62 (x y : Int32) : Int32 := if x ≤ nI 4 then J_t74 x y else J_t74 (px_ush x (nI 2)) (y + nI 2)
def J_t49 (x y : Int32) : Int32 := if x ≤ nI 16 then J_t62 x y else J_t62 (px_ush x (nI 4)) (y + nI 4)
def J_t34 (x y : Int32) : Int32 := if x ≤ nI 256 then J_t49 x y else J_t49 (px_ush x (nI 8)) (y + nI 8)
def J_tz0 (y : Int32) : Int32 := if 0 < y then (if y ≤ 65536 then J_t34 y (nI 1) else J_t34 (px_ush y (nI 16)) (nI 1 + nI 16)) else y &&& nI 32
def J_tz (x : Int32) : Int32 := J_tz0 ((x ^^^ -1) &&& (x - nI 1))
theorem jn_t62 (x y : Int32) (h : pH) : jn_numberOfTrailingZeros_62 x y h = some (J_t62 x y, h) := by
  unfold jn_numberOfTrailingZeros_62 J_t62 jn_numberOfTrailingZeros_74 J_t74
  rw [bc_4, bc_2, bc_1]
  by_cases c : x ≤ nI 4
  · rw [if_pos c, if_pos c]
  · rw [if_neg c, if_neg c]
theorem jn_t49 (x y : Int32) (h : pH) : jn_numberOfTrailingZeros_49 x y h = some (J_t49 x y, h) := by
  unfold jn_numberOfTrailingZeros_49 J_t49
  rw [bc_16, bc_4]
  dsimp only
  rw [jn_t62, jn_t62]
  by_cases c : x ≤ nI 16
  · rw [if_pos c, if_pos c]
  · rw [if_neg c, if_neg c]
theorem jn_t34 (x y : Int32) (h : pH) : jn_numberOfTrailingZeros_34 x y h = some (J_t34 x y, h) := by
  unfold jn_numberOfTrailingZeros_34 J_t34
  rw [bc_256, bc_8]
  dsimp only
  rw [jn_t49, jn_t49]
  by_cases c : x ≤ nI 256
  · rw [if_pos c, if_pos c]
  · rw [if_neg c, if_neg c]
theorem jn_tz (x : Int32) (h : pH) : jn_numberOfTrailingZeros x h = some (J_tz x, h) := by
  unfold jn_numberOfTrailingZeros J_tz J_tz0
  rw [bc_m1, bc_1, bc_16, bc_32, px_k_eq]
  dsimp only
  generalize (x ^^^ -1) &&& (x - nI 1) = y
  rw [jn_t34, jn_t34]
  by_cases c : 0 < y
  · rw [if_pos c, if_pos c]
    by_cases d : y ≤ 65536
    · rw [if_pos d, if_pos d]
    · rw [if_neg d, if_neg d]
  · rw [if_neg c, if_neg c]
theorem J_tz_sh : ∀ p, p < 6 → J_tz (nI 1 <<< (nI p &&& 31)) = nI p := by decide +kernel
/-- a row that puts them on the islet -/
noncomputable def V_hit (ev : pE) (Z : pH) (Y K p b ki : Nat) (ab : Int32) (r : List Nat) : Bool := Z_bu ev Z (S_dist Z Y p b) ab r && decide (S_land Z Y K p b (S_go ev Z (S_dist Z Y p b) ab r).1 = nI (2 + ki))
noncomputable def V_sd (ev : pE) (Z : pH) (Y p b : Nat) (ab : Int32) (r : List Nat) : Nat := (S_go ev Z (S_dist Z Y p b) ab r).2.1.getD 0
section SHOREM
variable {h : pH} {P T K Y p b : Nat} {Z : pH} {ev : pE} {ab : Int32} {r : List Nat}
theorem mo_isLineLess_s {l : List Nat} (C : M_row h r) (hl : l.length ≤ 3) (e50 : h 51 50 = nI l.length) (e72 : ∀ j, j < l.length → h 72 j = nI (l.getD j 0)) (hr : ∀ t, t ∈ r → t < 10) (hl2 : ∀ t, t ∈ l → t < 10) : mo_isLineLess h = some (B_01 (L_ls r l), h) := by
  have hr6 := C.2.1
  have e60 : mo_isLineLess_60 h = some (B_01 (decide (r.length < l.length)), h) := by
    unfold mo_isLineLess_60 mo_isLineLess_76
    rw [e50, C.1, bc_0, bc_1, B_bz0, B_bz1]
    by_cases c : l.length ≤ r.length
    · rw [if_pos (nI_le c (by omega)), decide_eq_false (by omega)]
      rfl
    · rw [if_neg (nI_ge (by omega) (by omega)), decide_eq_true (by omega)]
      rfl
  have H : ∀ j k n, k + j = r.length → j < n → mo_isLineLess_2 n (nI k) h = some (B_01 (L_ls (r.drop k) (l.drop k)), h) := by
    intro j
    induction j with
    | zero =>
      intro k n hk hn
      obtain ⟨n, rfl⟩ : ∃ n', n = n' + 1 := ⟨n - 1, by omega⟩
      show (if h 51 30 ≤ nI k then _ else _) = _
      rw [C.1, if_pos (nI_le (by omega) (by omega)), e60, List.drop_eq_nil_of_le (show r.length ≤ k by omega)]
      by_cases c : r.length < l.length
      · rw [decide_eq_true c, drop_getD (show k < l.length by omega)]
        rfl
      · rw [decide_eq_false c, List.drop_eq_nil_of_le (show l.length ≤ k by omega)]
        rfl
    | succ j ih =>
      intro k n hk hn
      obtain ⟨n, rfl⟩ : ∃ n', n = n' + 1 := ⟨n - 1, by omega⟩
      show (if h 51 30 ≤ nI k then _ else _) = _
      rw [C.1, if_neg (nI_ge (by omega) (by omega)), e50]
      by_cases c : l.length ≤ k
      · rw [if_pos (nI_le c (by omega)), e60, decide_eq_false (by omega), List.drop_eq_nil_of_le c, L_ls_nil]
      · have a1 := hr _ (getD_memN (l := r) (k := k) (by omega))
        have a2 := hl2 _ (getD_memN (l := l) (k := k) (by omega))
        rw [if_neg (nI_ge (by omega) (by omega)), po_65 (by omega), B_ift, po_72 (by omega), B_ift, nI_clamp (by omega), C.2.2 k (by omega), e72 k (by omega), drop_getD (show k < r.length by omega), drop_getD (show k < l.length by omega), L_ls_cons]
        by_cases d : r.getD k 0 = l.getD k 0
        · rw [if_pos (by rw [d]), if_pos d, bc_1, nI_add]
          exact ih (k + 1) n (by omega) (by omega)
        · rw [if_neg (fun w => by rw [bn_eq (by omega) (by omega)] at w; exact d w), if_neg d, B_ift, B_ift]
          unfold mo_isLineLess_53
          rw [bc_0, bc_1, B_bz0, B_bz1]
          by_cases e : r.getD k 0 < l.getD k 0
          · rw [if_neg (nI_ge (by omega) (by omega)), decide_eq_true e]
            rfl
          · rw [if_pos (nI_le (by omega) (by omega)), decide_eq_false e]
            rfl
  unfold mo_isLineLess
  rw [bc_0, ← nI_0]
  exact H r.length 0 px_F (by omega) (px_F_lt (by omega))
def V_A (ki : Nat) (a : V_T) (h : pH) : Prop := h 51 44 = nI ki ∧ h 51 47 = nI a.1 ∧ (∀ t, t < 10 → h 71 t = nI (a.2.1 t)) ∧ (a.2.2 = none → a.1 = 0) ∧ ∀ l, a.2.2 = some l → 0 < a.1 ∧ l.length ≤ 3 ∧ (∀ t, t ∈ l → t < 10) ∧ h 51 50 = nI l.length ∧ ∀ j, j < l.length → h 72 j = nI (l.getD j 0)
theorem V_A.same {h' : pH} {ki : Nat} {a : V_T} (A : V_A ki a h) (e44 : h' 51 44 = h 51 44) (e47 : h' 51 47 = h 51 47) (e50 : h' 51 50 = h 51 50) (e71 : h' 71 = h 71) (e72 : h' 72 = h 72) : V_A ki a h' := by
  unfold V_A at *
  rw [e44, e47, e50, e71, e72]
  exact A
theorem mo_endRow_171_s {ki s : Nat} {a : V_T} {l : List Nat} (hs : s < 10) (e32 : h 51 32 = nI s) (e44 : h 51 44 = nI ki) (e47 : h 51 47 = nI a.1) (e71 : ∀ t, t < 10 → h 71 t = nI (a.2.1 t)) (hl : l.length ≤ 3) (hl2 : ∀ t, t ∈ l → t < 10) (e50 : h 51 50 = nI l.length) (e72 : ∀ j, j < l.length → h 72 j = nI (l.getD j 0)) (Mr : M_row h r) : ∃ h', mo_endRow_171 h = some (0, h') ∧ V_A ki (a.1 + 1, V_F a.2.1 s, some l) h' ∧ B_fr E_q h h' ∧ M_row h' r := by
  have e1 : (px_w h 51 47 (h 51 47 + nI 1)) 51 32 = nI s := by rw [B_w_at, if_neg (by decide), e32]
  refine ⟨px_w (px_w h 51 47 (h 51 47 + nI 1)) 71 s (h 71 s + nI 1), ?_, ⟨?_, ?_, fun t ht => ?_, (fun w => by cases w), fun l' w => ?_⟩, ((B_fr.refl _ _).w rfl).w rfl, ⟨?_, Mr.2.1, fun k hk => ?_⟩⟩
  · unfold mo_endRow_171 mo_endRow_194
    dsimp only
    rw [bc_1, bc_0, e1, po_71 hs, B_ift, B_ift, nI_clamp (by omega), B_bz0, B_w_cell _ _ _ (show (71 : Nat) ≠ 51 by decide)]
  · rw [B_w_cell _ _ _ (show (51 : Nat) ≠ 71 by decide), B_w_at, if_neg (by decide), e44]
  · rw [B_w_cell _ _ _ (show (51 : Nat) ≠ 71 by decide), B_w_same, e47, nI_add]
  · rw [B_w_at, B_w_cell _ _ _ (show (71 : Nat) ≠ 51 by decide)]
    show _ = nI (V_F a.2.1 s t)
    unfold V_F
    by_cases q : t = s
    · rw [if_pos q, if_pos q, q, e71 s hs, nI_add]
    · rw [if_neg q, if_neg q, e71 t ht]
  · change some l = some l' at w
    cases w
    refine ⟨Nat.succ_pos _, hl, hl2, ?_, fun j hj => ?_⟩
    · rw [B_w_cell _ _ _ (show (51 : Nat) ≠ 71 by decide), B_w_at, if_neg (by decide), e50]
    · rw [B_w_cell _ _ _ (show (72 : Nat) ≠ 71 by decide), B_w_cell _ _ _ (show (72 : Nat) ≠ 51 by decide), e72 j hj]
  · rw [B_w_cell _ _ _ (show (51 : Nat) ≠ 71 by decide), B_w_at, if_neg (by decide)]
    exact Mr.1
  · rw [B_w_cell _ _ _ (show (65 : Nat) ≠ 71 by decide), B_w_cell _ _ _ (show (65 : Nat) ≠ 51 by decide)]
    exact Mr.2.2 k hk
theorem mo_endRow_135_s (Mr : M_row h r) (hr3 : r.length ≤ 3) : ∃ h', mo_endRow_135 h = mo_endRow_171 h' ∧ h' 51 50 = nI r.length ∧ (∀ j, j < r.length → h' 72 j = nI (r.getD j 0)) ∧ B_fr E_q h h' ∧ ∀ c k, ¬ c = 72 → ¬ (c = 51 ∧ k = 50) → h' c k = h c k := by
  have hr6 := Mr.2.1
  have H : ∀ (j k n : Nat) (g : pH), k + j = r.length → j < n → g 51 50 = nI r.length → (∀ i, i < k → g 72 i = nI (r.getD i 0)) → B_fr E_q h g → (∀ c k, ¬ c = 72 → ¬ (c = 51 ∧ k = 50) → g c k = h c k) → ∃ h', mo_endRow_145 n (nI k) g = mo_endRow_171 h' ∧ h' 51 50 = nI r.length ∧ (∀ j, j < r.length → h' 72 j = nI (r.getD j 0)) ∧ B_fr E_q h h' ∧ ∀ c k, ¬ c = 72 → ¬ (c = 51 ∧ k = 50) → h' c k = h c k := by
    intro j
    induction j with
    | zero =>
      intro k n g hk hn e50 e72 F e
      obtain ⟨n, rfl⟩ : ∃ n', n = n' + 1 := ⟨n - 1, by omega⟩
      refine ⟨g, ?_, e50, fun i hi => e72 i (by omega), F, e⟩
      show (if g 51 30 ≤ nI k then _ else _) = _
      rw [e 51 30 (by decide) (by decide), Mr.1, if_pos (nI_le (by omega) (by omega))]
    | succ j ih =>
      intro k n g hk hn e50 e72 F e
      obtain ⟨n, rfl⟩ : ∃ n', n = n' + 1 := ⟨n - 1, by omega⟩
      have e65 : g 65 k = nI (r.getD k 0) := by rw [e 65 k (by decide) (by omega), Mr.2.2 k (by omega)]
      obtain ⟨h', x1, x2⟩ := ih (k + 1) n (px_w g 72 k (nI (r.getD k 0))) (by omega) (by omega) (by rw [B_w_cell _ _ _ (show (51 : Nat) ≠ 72 by decide), e50]) (fun i hi => by
        rw [B_w_at]
        by_cases q : i = k
        · rw [if_pos q, q]
        · rw [if_neg q]
          exact e72 i (by omega)) (F.w rfl) (fun c k h1 h2 => by
        rw [B_w_cell _ _ _ h1]
        exact e c k h1 h2)
      refine ⟨h', ?_, x2⟩
      show (if g 51 30 ≤ nI k then _ else _) = _
      rw [e 51 30 (by decide) (by decide), Mr.1, if_neg (nI_ge (by omega) (by omega)), po_65 (by omega), B_ift, po_72 (by omega), B_ift, nI_clamp (by omega), e65, bc_1, nI_add]
      exact x1
  unfold mo_endRow_135
  rw [bc_0, ← nI_0]
  refine H r.length 0 px_F _ (by omega) (px_F_lt (by omega)) (by rw [B_w_same, Mr.1]) (fun i hi => by omega) ((B_fr.refl _ _).w rfl) (fun c k h1 h2 => ?_)
  unfold px_w
  rw [if_neg h2]
theorem mo_endRow_shore {q ki : Nat} (hr3 : r.length ≤ 3) (hq : q < P) (hab : ab = nI 1 <<< (nI q &&& 31)) (hp : p < 2 + K) (hb : b < 2) (W : R_w P T K Y Z) (hv : Z_v Z T ab r) (M : Ms h P T K Y Z ev ab p b) (Mr : M_row h r) (a : V_T) (ha : a.1 < 20000) (A : V_A ki a h) : ∃ h', mo_endRow (nI 2) h = some (0, h') ∧ V_A ki (V_st (V_hit ev Z Y K p b ki ab) (V_sd ev Z Y p b ab) r a) h' ∧ B_fr E_q h h' ∧ M_row h' r := by
  have h6 := W.1
  have h10 := W.2.1
  obtain ⟨g1, g2⟩ := mo_endRow_go (ev := ev) hp hb W hv M Mr (nI 2)
  have e41 := M.2.2.1
  have hno : ∀ g, V_hit ev Z Y K p b ki ab r = false → V_A ki a g → V_A ki (V_st (V_hit ev Z Y K p b ki ab) (V_sd ev Z Y p b ab) r a) g := fun g w x => by
    unfold V_st
    rw [w, if_neg (by decide)]
    exact x
  by_cases c : S_dist Z Y p b ≤ S_wds Z r
  · obtain ⟨h8, x1, x2, x3, x4⟩ := g2 c
    have mr : M_row h8 r := Mr.fr (Or.inr (Or.inl rfl)) x4
    have A8 : V_A ki a h8 := A.same (x4 51 44 rfl) (x4 51 47 rfl) (x4 51 50 rfl) (x4.row 71 (fun _ => rfl)) (x4.row 72 (fun _ => rfl))
    rw [x1, if_neg (by decide)]
    cases hd : (S_go ev Z (S_dist Z Y p b) ab r).2.1 with
    | none =>
      refine ⟨_, ?_, hno _ ?_ ?_, (x4.mono E_g_q).w (a := 51) (k := 45) (v := h8 51 45 + px_c 1) rfl, ?_⟩
      · rw [decide_eq_true (show (none : Option Nat) = none from rfl), if_neg (by decide)]
        unfold mo_endRow_91 mo_endRow_194
        rw [bc_2, if_pos rfl, if_neg (by decide), bc_0, B_bz0]
      · unfold V_hit Z_bu
        rw [hd]
        simp
      · exact A8.same (by rw [B_w_at, if_neg (by decide)]) (by rw [B_w_at, if_neg (by decide)]) (by rw [B_w_at, if_neg (by decide)]) (B_w_cell _ _ _ (by decide)) (B_w_cell _ _ _ (by decide))
      · refine ⟨?_, mr.2.1, fun k hk => ?_⟩
        · rw [B_w_at, if_neg (by decide)]; exact mr.1
        · rw [B_w_cell _ _ _ (show (65 : Nat) ≠ 51 by decide)]; exact mr.2.2 k hk
    | some s =>
      have hs : s < T := foldl_said r (0, none, Z) (fun t w => by cases w) hv.lt s hd
      have e01 : decide ((some s : Option Nat) = none) = false := rfl
      rw [hd] at x3
      have eF : h8 68 q = S_land Z Y K p b (S_go ev Z (S_dist Z Y p b) ab r).1 := by
        rw [x2.1 q hq, S_fin_at (by rw [hab, B_bit_sh (by omega) (by omega)]; simp)]
        unfold S_pl
        rw [hd]
      rw [e01, if_pos (show B_01 false = 0 from rfl)]
      generalize hh9 : px_w h8 51 46 (h8 51 46 + px_c 1) = h9
      have c9 : ∀ c k, ¬ (c = 51 ∧ k = 46) → h9 c k = h8 c k := fun c k h1 => by
        rw [← hh9]
        unfold px_w
        rw [if_neg h1]
      have F9 : B_fr E_q h h9 := by
        rw [← hh9]
        exact (x4.mono E_g_q).w rfl
      have A9 : V_A ki a h9 := A8.same (c9 _ _ (by decide)) (c9 _ _ (by decide)) (c9 _ _ (by decide)) (funext fun k => c9 _ _ (by omega)) (funext fun k => c9 _ _ (by omega))
      have mr9 : M_row h9 r := ⟨by rw [c9 51 30 (by decide)]; exact mr.1, mr.2.1, fun k hk => by rw [c9 65 k (by omega)]; exact mr.2.2 k hk⟩
      have e9 : h9 51 41 = ab := by rw [c9 51 41 (by decide), x4 51 41 rfl, e41]
      have e32 : h9 51 32 = nI s := by rw [c9 51 32 (by decide), x3]; rfl
      have hz : mo_endRow_91 (nI 2) (B_01 false) h9 = if S_land Z Y K p b (S_go ev Z (S_dist Z Y p b) ab r).1 = nI (2 + ki) then (if nI a.1 = 0 then mo_endRow_135 h9 else px_bind (mo_isLineLess h9) fun z3 h4 => if z3 = 0 then mo_endRow_171 h4 else mo_endRow_135 h4) else some (0, h9) := by
        unfold mo_endRow_91 mo_endRow_194
        rw [bc_2, if_pos rfl, if_pos (show B_01 false = 0 from rfl), e9, jn_tz, B_bind, hab, J_tz_sh q (by omega), po_68 (by omega), B_ift, nI_clamp (by omega), ← hab, c9 68 q (by omega), eF, A9.1, nI_add, A9.2.1, bc_0, B_bz0]
      rw [hz]
      have hbu : Z_bu ev Z (S_dist Z Y p b) ab r = true := by
        unfold Z_bu
        rw [hd, decide_eq_true c]
        rfl
      by_cases cl : S_land Z Y K p b (S_go ev Z (S_dist Z Y p b) ab r).1 = nI (2 + ki)
      · have eh : V_st (V_hit ev Z Y K p b ki ab) (V_sd ev Z Y p b ab) r a = (a.1 + 1, V_F a.2.1 s, V_o a.2.2 r) := by
          have e1 : V_hit ev Z Y K p b ki ab r = true := by
            unfold V_hit
            rw [hbu, decide_eq_true cl]
            rfl
          have e2 : V_sd ev Z Y p b ab r = s := by
            unfold V_sd
            rw [hd]
            rfl
          unfold V_st
          rw [if_pos e1, e2]
        rw [if_pos cl, eh]
        obtain ⟨q44, q47, q71, q0, ql⟩ := A9
        have hlt : ∀ t, t ∈ r → t < 10 := fun t ht => by have := hv.lt t ht; omega
        obtain ⟨g, w1, w2, w3, w4, w5⟩ := mo_endRow_135_s mr9 hr3
        obtain ⟨h', y1, y2, y3, y4⟩ := mo_endRow_171_s (ki := ki) (a := a) (l := r) (show s < 10 by omega) (by rw [w5 51 32 (by decide) (by decide), e32]) (by rw [w5 51 44 (by decide) (by decide), q44]) (by rw [w5 51 47 (by decide) (by decide), q47]) (fun t ht => by rw [w5 71 t (by decide) (by omega), q71 t ht]) hr3 hlt w2 w3 (r := r) ⟨by rw [w5 51 30 (by decide) (by decide)]; exact mr9.1, mr9.2.1, fun k hk => by rw [w5 65 k (by decide) (by omega)]; exact mr9.2.2 k hk⟩
        by_cases z : a.1 = 0
        · have en : a.2.2 = none := by
            cases w : a.2.2 with
            | none => rfl
            | some l => have := (ql l w).1; omega
          rw [z, if_pos nI_0, w1, y1, en]
          refine ⟨h', rfl, ?_, (F9.trans w4).trans y3, y4⟩
          rw [z] at y2
          exact y2
        · rw [if_neg (fun w => by rw [bn_eq0 (by omega)] at w; exact z w)]
          cases w : a.2.2 with
          | none => exact absurd (q0 w) z
          | some l =>
            obtain ⟨l0, l6, lt, l50, l72⟩ := ql l w
            rw [mo_isLineLess_s mr9 l6 l50 l72 hlt lt, B_bind]
            have eo : V_o (some l) r = some (if L_ls r l = true then r else l) := rfl
            rw [eo]
            cases d : L_ls r l with
            | true =>
              rw [if_neg (show ¬ B_01 true = 0 by decide), w1, y1, if_pos rfl]
              exact ⟨h', rfl, y2, (F9.trans w4).trans y3, y4⟩
            | false =>
              rw [if_pos (show B_01 false = 0 from rfl), if_neg (by decide)]
              obtain ⟨h', y1, y2, y3, y4⟩ := mo_endRow_171_s (ki := ki) (a := a) (l := l) (show s < 10 by omega) e32 q44 q47 q71 l6 lt l50 l72 mr9
              exact ⟨h', y1, y2, F9.trans y3, y4⟩
      · rw [if_neg cl]
        refine ⟨h9, rfl, hno _ ?_ A9, F9, mr9⟩
        unfold V_hit
        rw [decide_eq_false cl, Bool.and_false]
  · rw [g1 c]
    refine ⟨h, rfl, hno _ ?_ A, B_fr.refl _ _, Mr⟩
    unfold V_hit Z_bu
    rw [decide_eq_false c]
    rfl
theorem mo_shore_s {many q ki : Nat} (hmany : many ≤ 3) (hq : q < P) (hab : ab = nI 1 <<< (nI q &&& 31)) (hp : p < 2 + K) (hb : b < 2) (W : R_w P T K Y Z) (M : Ms h P T K Y Z ev ab p b) (a : V_T) (hc : a.1 + 10 ^ many ≤ 20000) (A : V_A ki a h) : ∃ h', mo_goRows (nI many) (nI 2) h = some (0, h') ∧ V_A ki ((R_el (Z_ok Z T ab) many []).foldl (fun a r => V_st (V_hit ev Z Y K p b ki ab) (V_sd ev Z Y p b ab) r a) a) h' ∧ ((R_el (Z_ok Z T ab) many []).foldl (fun a r => V_st (V_hit ev Z Y K p b ki ab) (V_sd ev Z Y p b ab) r a) a).1 ≤ a.1 + 10 ^ many ∧ B_fr E_q h h' := by
  obtain ⟨h', x1, x2, x3, x4⟩ := mo_goRows_s (V_A ki) (V_st (V_hit ev Z Y K p b ki ab) (V_sd ev Z Y p b ab)) (fun _ => false) (fun a => a.1) (fun r a => V_st_cn r a) (nI 2) many (by omega) W (fun a h h' q e => q.same (e 51 44 (by decide) (by decide)) (e 51 47 (by decide) (by decide)) (e 51 50 (by decide) (by decide)) (funext fun k => e 71 k (by decide) (by omega)) (funext fun k => e 72 k (by decide) (by omega))) (fun r a h hc hrl hv M Mr A => by
    obtain ⟨h', y1, y2, y3, y4⟩ := mo_endRow_shore (by omega) hq hab hp hb W hv M Mr a hc A
    exact ⟨h', y1, y2, y3, y4⟩) a hc M A
  have hcn := E_t_cn (ok := Z_ok Z T ab) (st := fun _ => false) (bd := V_st (V_hit ev Z Y K p b ki ab) (V_sd ev Z Y p b ab)) (cn := fun a => a.1) (fun r a => V_st_cn r a) many [] a
  rw [E_t_v] at x1 x2 hcn
  dsimp only at x1 x2 hcn
  rw [E_v_el] at x2 hcn
  exact ⟨h', x1, x2, hcn, x3⟩
end SHOREM
