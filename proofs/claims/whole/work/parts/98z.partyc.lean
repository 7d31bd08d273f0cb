/-! Layer B: party: the class -/
theorem B_set_no {c : Nat → Bool} {n : Nat} (h : ∀ j, j < n → c j = false) : B_set c n = 0 := by
  rw [B_set_eq (d := fun _ => false) h]
  induction n with
  | zero => rfl
  | succ n ih =>
    rw [B_set_snoc, if_neg (by decide), Int32.or_zero]
    exact ih (fun j hj => h j (by omega))
/-- two that can go together -/
noncomputable def Y_pr (ev : pE) (S : pH) (T D X a b : Nat) : Bool := X.testBit a && X.testBit b && !decide (Z_sh ev S T D ((nI 1 <<< (nI a &&& 31)) ||| (nI 1 <<< (nI b &&& 31))) 3 = [])
/-- what is read of those who can go with a -/
noncomputable def Y_tb (pr : Nat → Nat → Bool) (a n : Nat) : Int32 := B_set (fun b => decide (a ≤ b) && pr a b) n
section PARTYC
variable {i : Nat} {h : pH} {P T K Y D f n X : Nat} {S : pH} {ev : pE} {pr : Nat → Nat → Bool}
theorem wu_has_n (hX : X < 64) {k : Nat} (hk : k < 32) : wu_has (nI X) (nI k) h = some (B_01 (X.testBit k), h) := by
  rw [wu_has_eq _ hk, Y_bit X hX k hk]
  cases X.testBit k <;> rfl
theorem mo_has_n (hX : X < 64) {k : Nat} (hk : k < 32) : mo_has (nI X) (nI k) h = some (B_01 (X.testBit k), h) := by
  rw [mo_has_eq _ hk, Y_bit X hX k hk]
  cases X.testBit k <;> rfl
theorem wu_firstOf_n (hX : X < 64) (h0 : X ≠ 0) : wu_firstOf (nI X) h = some (nI (Y_f X), h) := by
  obtain ⟨f1, f2⟩ := Y_f_in X hX h0
  have H : ∀ j k n, k + j = Y_f X → j < n → wu_firstOf_2 n (nI X) (nI k) h = some (nI (Y_f X), h) := by
    intro j
    induction j with
    | zero =>
      intro k n hk hn
      obtain ⟨n, rfl⟩ : ∃ n', n = n' + 1 := ⟨n - 1, by omega⟩
      have ek : k = Y_f X := by omega
      subst ek
      show (if px_c 32 ≤ nI (Y_f X) then _ else _) = _
      rw [bc_32, if_neg (nI_ge (by omega) (by omega)), wu_has_n hX (by omega), f2, B_bind, if_neg (show ¬ B_01 true = 0 by decide)]
    | succ j ih =>
      intro k n hk hn
      obtain ⟨n, rfl⟩ : ∃ n', n = n' + 1 := ⟨n - 1, by omega⟩
      show (if px_c 32 ≤ nI k then _ else _) = _
      rw [bc_32, if_neg (nI_ge (by omega) (by omega)), wu_has_n hX (by omega), Y_f_lo X hX k (by omega) (by omega), B_bind, if_pos (show B_01 false = 0 from rfl), bc_1, nI_add]
      exact ih (k + 1) n (by omega) (by omega)
  unfold wu_firstOf
  rw [bc_0, ← nI_0]
  exact H (Y_f X) 0 px_F (by omega) (px_F_lt (by omega))
theorem fl_without_n (hX : X < 64) {a b : Nat} (ha : a < 6) (hb : b < 6) : fl_without (nI X) (nI a) (nI b) h = some (nI (Y_w X a b), h) := by
  unfold fl_without
  rw [bc_1, bc_m1, Y_w_int X hX a ha b hb]
/-- what the pairs are written in -/
def E_pc : Nat → Nat → Bool := fun a k => match a with
  | 22 => true
  | 48 => true
  | a => E_w a k
theorem E_pc_sc : ∀ a k, E_pc a k = true → B_sc a k = true := fun a k e => by
  unfold E_pc at e
  split at e
  · rfl
  · rfl
  · exact E_w_sc a k e
theorem E_w_pc : ∀ a k, E_w a k = true → E_pc a k = true := fun a k e => by
  unfold E_pc
  split
  · rfl
  · rfl
  · exact e
theorem B_ld_pc (h : pH) (ab st bk yd : Int32) : B_fr E_pc h (B_ld h ab st bk yd) := (((((B_fr.refl _ h).w rfl).w rfl).w rfl).w rfl).w rfl
theorem fl_clear_s (h : pH) : ∃ h', fl_clear h = some (0, h') ∧ (∀ c, c < 6 → h' 48 c = 0) ∧ B_fr E_pc h h' := by
  have H : ∀ (j k n : Nat) (g : pH), k + j = 6 → j < n → (∀ c, c < k → g 48 c = 0) → B_fr E_pc h g → ∃ h', fl_clear_2 n (nI k) g = some (0, h') ∧ (∀ c, c < 6 → h' 48 c = 0) ∧ B_fr E_pc h h' := by
    intro j
    induction j with
    | zero =>
      intro k n g hk hn e F
      obtain ⟨n, rfl⟩ : ∃ n', n = n' + 1 := ⟨n - 1, by omega⟩
      refine ⟨g, ?_, fun c hc => e c (by omega), F⟩
      show (if px_c 6 ≤ nI k then _ else _) = _
      rw [bc_6, if_pos (nI_le (by omega) (by omega))]
    | succ j ih =>
      intro k n g hk hn e F
      obtain ⟨n, rfl⟩ : ∃ n', n = n' + 1 := ⟨n - 1, by omega⟩
      obtain ⟨h', x1, x2⟩ := ih (k + 1) n (px_w g 48 k 0) (by omega) (by omega) (fun c hc => by
        rw [B_w_at]
        by_cases w : c = k
        · rw [if_pos w]
        · rw [if_neg w]
          exact e c (by omega)) (F.w rfl)
      refine ⟨h', ?_, x2⟩
      show (if px_c 6 ≤ nI k then _ else _) = _
      rw [bc_6, if_neg (nI_ge (by omega) (by omega)), bc_0, wp_48 (by omega), B_bind, bc_1, nI_add]
      exact x1
  unfold fl_clear
  rw [bc_0, ← nI_0]
  exact H 6 0 px_F h rfl (px_F_lt (by omega)) (fun c hc => by omega) (B_fr.refl _ _)
theorem Y_tb_snoc (a b : Nat) : Y_tb pr a (b + 1) = Y_tb pr a b ||| (if (decide (a ≤ b) && pr a b) = true then nI 1 <<< (nI b &&& 31) else 0) := B_set_snoc _ _
/-- the pairs tried: those from a, from b on -/
theorem wu_party_38_s (hX : X < 64) (hf : f < 2) (W : R_w P T K Y S) (hD : S_dist S Y f (1 - f) ≤ 60) (r29 : Int32 → Int32 → Int32 → pH → pR) {a : Nat} (ha : a < 6) : ∀ (j b m : Nat) (g : pH), b + j = 6 → a ≤ b → j < m → C_h g P T K Y S ev → (∀ c, c < a → g 48 c = Y_tb (Y_pr ev S T (S_dist S Y f (1 - f)) X) c 6) → g 48 a = Y_tb (Y_pr ev S T (S_dist S Y f (1 - f)) X) a b → (∀ c, a < c → c < 6 → g 48 c = 0) → ∃ h', wu_party_38 r29 m (nI X) (nI f) (nI a) (nI b) g = r29 (nI X) (nI f) (nI (a + 1)) h' ∧ (∀ c, c < a + 1 → h' 48 c = Y_tb (Y_pr ev S T (S_dist S Y f (1 - f)) X) c 6) ∧ (∀ c, a < c → c < 6 → h' 48 c = 0) ∧ B_fr E_pc g h' := by
  intro j
  induction j with
  | zero =>
    intro b m g hb hab hm C e1 e2 e3
    obtain ⟨m, rfl⟩ : ∃ n', m = n' + 1 := ⟨m - 1, by omega⟩
    have eb : b = 6 := by omega
    subst eb
    refine ⟨g, ?_, fun c hc => ?_, e3, B_fr.refl _ _⟩
    · show (if px_c 6 ≤ nI 6 then _ else _) = _
      rw [bc_6, if_pos (nI_le (by omega) (by omega)), bc_1, nI_add]
    · by_cases w : c = a
      · rw [w]
        exact e2
      · exact e1 c (by omega)
  | succ j ih =>
    intro b m g hb hab hm C e1 e2 e3
    obtain ⟨m, rfl⟩ : ∃ n', m = n' + 1 := ⟨m - 1, by omega⟩
    have e114 : ∀ g', wu_party_114 r29 (wu_party_38 r29 m) (nI X) (nI f) (nI a) (nI b) g' = wu_party_38 r29 m (nI X) (nI f) (nI a) (nI (b + 1)) g' := fun g' => by
      unfold wu_party_114
      rw [bc_1, nI_add]
    have hstep : wu_party_38 r29 (m + 1) (nI X) (nI f) (nI a) (nI b) g = if B_01 (X.testBit a) = 0 then wu_party_38 r29 m (nI X) (nI f) (nI a) (nI (b + 1)) g else if B_01 (X.testBit b) = 0 then wu_party_38 r29 m (nI X) (nI f) (nI a) (nI (b + 1)) g else px_bind (cr_load ((nI 1 <<< (nI a &&& 31)) ||| (nI 1 <<< (nI b &&& 31))) (nI f) (nI (1 - f)) g) fun _ h6 => px_bind (wk_start (nI 3) h6) fun _ h8 => px_bind (wk_findShortest h8) fun z9 h10 => if z9 ≤ 0 then wu_party_111 r29 (wu_party_38 r29 m) (nI X) (nI f) (nI a) (nI b) 0 (nI b) (nI a) h10 else wu_party_111 r29 (wu_party_38 r29 m) (nI X) (nI f) (nI a) (nI b) (nI 1) (nI b) (nI a) h10 := by
      show (if px_c 6 ≤ nI b then _ else _) = _
      rw [bc_6, if_neg (nI_ge (by omega) (by omega)), wu_has_n hX (by omega), B_bind, wu_has_n hX (by omega), e114, B_bind, e114, bc_1, bc_3, bc_0, pk_sub (by omega)]
    have hskip : ∀ c, (X.testBit a = false ∨ X.testBit b = false) → c = g → ∃ h', wu_party_38 r29 m (nI X) (nI f) (nI a) (nI (b + 1)) c = r29 (nI X) (nI f) (nI (a + 1)) h' ∧ (∀ c, c < a + 1 → h' 48 c = Y_tb (Y_pr ev S T (S_dist S Y f (1 - f)) X) c 6) ∧ (∀ c, a < c → c < 6 → h' 48 c = 0) ∧ B_fr E_pc g h' := by
      intro c hh ec
      subst ec
      refine ih (b + 1) m c (by omega) (by omega) (by omega) C e1 ?_ e3
      have : Y_pr ev S T (S_dist S Y f (1 - f)) X a b = false := by
        unfold Y_pr
        rcases hh with q | q
        · rw [q]; rfl
        · rw [q, Bool.and_false]; rfl
      rw [Y_tb_snoc, this, Bool.and_false, if_neg (by decide), Int32.or_zero]
      exact e2
    rw [hstep]
    cases ha' : X.testBit a with
    | false =>
      rw [if_pos (show B_01 false = 0 from rfl)]
      exact hskip g (Or.inl ha') rfl
    | true =>
      rw [if_neg (show ¬ B_01 true = 0 by decide)]
      cases hb' : X.testBit b with
      | false =>
        rw [if_pos (show B_01 false = 0 from rfl)]
        exact hskip g (Or.inr hb') rfl
      | true =>
        rw [if_neg (show ¬ B_01 true = 0 by decide), cr_load_s (show f < 2 + K by omega) (show 1 - f < 2 by omega) C.1 W, B_bind]
        generalize hab2 : (nI 1 <<< (nI a &&& 31)) ||| (nI 1 <<< (nI b &&& 31)) = ab
        have F1 := B_ld_pc g ab (nI f) (nI (1 - f)) (nI (S_dist S Y f (1 - f)))
        obtain ⟨h4, h5, x1, x2, x3, x4, x5⟩ := wk_short (l := 3) (by omega) W hD (C.fr (F1.mono E_pc_sc)) (B_ld_6 _ _ _ _ _) (B_ld_9 _ _ _ _ _)
        have F5 : B_fr E_pc g h5 := F1.trans (x3.mono E_w_pc)
        have c48 : ∀ c, h5 48 c = g 48 c := fun c => by
          rw [x3 48 c rfl]
          rfl
        have hlen : (nI (Z_sh ev S T (S_dist S Y f (1 - f)) ab 3).length ≤ 0) = (Z_sh ev S T (S_dist S Y f (1 - f)) ab 3 = []) := by
          rw [bn_le0 (by omega)]
          exact propext List.length_eq_zero_iff
        have hpr : Y_pr ev S T (S_dist S Y f (1 - f)) X a b = !decide (Z_sh ev S T (S_dist S Y f (1 - f)) ab 3 = []) := by
          unfold Y_pr
          rw [ha', hb', hab2]
          rfl
        have e111 : ∀ (s0 v : Int32), (if s0 = 0 then px_c 0 else (px_c 1) <<< (nI b &&& 31)) = v → wu_party_111 r29 (wu_party_38 r29 m) (nI X) (nI f) (nI a) (nI b) s0 (nI b) (nI a) h5 = wu_party_38 r29 m (nI X) (nI f) (nI a) (nI (b + 1)) (px_w h5 48 a (g 48 a ||| v)) := fun s0 v hv => by
          unfold wu_party_111 fl_pair
          rw [wa_48 (by omega), B_bind, c48]
          by_cases w : s0 = 0
          · rw [if_pos w] at hv ⊢
            unfold fl_pair_24
            rw [hv, wp_48 (by omega), B_bind, B_bind, e114]
          · rw [if_neg w] at hv ⊢
            unfold fl_pair_24
            rw [hv, wp_48 (by omega), B_bind, B_bind, e114]
        have fin : ∀ v, Y_tb (Y_pr ev S T (S_dist S Y f (1 - f)) X) a (b + 1) = g 48 a ||| v → ∃ h', wu_party_38 r29 m (nI X) (nI f) (nI a) (nI (b + 1)) (px_w h5 48 a (g 48 a ||| v)) = r29 (nI X) (nI f) (nI (a + 1)) h' ∧ (∀ c, c < a + 1 → h' 48 c = Y_tb (Y_pr ev S T (S_dist S Y f (1 - f)) X) c 6) ∧ (∀ c, a < c → c < 6 → h' 48 c = 0) ∧ B_fr E_pc g h' := fun v hv => by
          have F6 : B_fr E_pc g (px_w h5 48 a (g 48 a ||| v)) := F5.w rfl
          obtain ⟨h', y1, y2, y3, y4⟩ := ih (b + 1) m (px_w h5 48 a (g 48 a ||| v)) (by omega) (by omega) (by omega) (C.fr (F6.mono E_pc_sc)) (fun c hc => by rw [B_w_at, if_neg (by omega), c48]; exact e1 c hc) (by rw [B_w_same, hv]) (fun c h1 h2 => by rw [B_w_at, if_neg (by omega), c48]; exact e3 c h1 h2)
          exact ⟨h', y1, y2, y3, F6.trans y4⟩
        rw [x1, B_bind, x2, B_bind]
        by_cases c : Z_sh ev S T (S_dist S Y f (1 - f)) ab 3 = []
        · rw [if_pos (by rw [hlen]; exact c), e111 0 0 (by rw [if_pos rfl, bc_0])]
          refine fin 0 ?_
          rw [Y_tb_snoc, hpr, decide_eq_true c, e2]
          rw [if_neg (by simp)]
        · rw [if_neg (by rw [hlen]; exact c), e111 (nI 1) (nI 1 <<< (nI b &&& 31)) (by rw [if_neg (by decide), bc_1])]
          refine fin _ ?_
          rw [Y_tb_snoc, hpr, decide_eq_false c, e2, decide_eq_true hab]
          rw [if_pos (by simp)]
theorem wu_party_29_s (hX : X < 64) (hf : f < 2) (W : R_w P T K Y S) (hD : S_dist S Y f (1 - f) ≤ 60) : ∀ (j a m : Nat) (g : pH), a + j = 6 → j < m → C_h g P T K Y S ev → (∀ c, c < a → g 48 c = Y_tb (Y_pr ev S T (S_dist S Y f (1 - f)) X) c 6) → (∀ c, a ≤ c → c < 6 → g 48 c = 0) → ∃ h', wu_party_29 m (nI X) (nI f) (nI a) g = (px_bind (fl_countBoats (nI X) h') fun z1 h2 => if z1 ≤ (px_c 6) then px_bind (fl_tellBoats (nI X) h2) fun _ h4 => some (z1, h4) else some (px_c (-2), h2)) ∧ (∀ c, c < 6 → h' 48 c = Y_tb (Y_pr ev S T (S_dist S Y f (1 - f)) X) c 6) ∧ B_fr E_pc g h' := by
  intro j
  induction j with
  | zero =>
    intro a m g ha hm C e1 e3
    obtain ⟨m, rfl⟩ : ∃ n', m = n' + 1 := ⟨m - 1, by omega⟩
    refine ⟨g, ?_, fun c hc => e1 c (by omega), B_fr.refl _ _⟩
    show (if px_c 6 ≤ nI a then _ else _) = _
    rw [bc_6, if_pos (nI_le (by omega) (by omega))]
  | succ j ih =>
    intro a m g ha hm C e1 e3
    obtain ⟨m, rfl⟩ : ∃ n', m = n' + 1 := ⟨m - 1, by omega⟩
    obtain ⟨h1, x1, x2, x3, x4⟩ := wu_party_38_s (ev := ev) hX hf W hD (wu_party_29 m) (show a < 6 by omega) (6 - a) a px_F g (by omega) (Nat.le_refl _) (px_F_lt (by omega)) C e1 (by
      rw [e3 a (Nat.le_refl _) (by omega)]
      refine (B_set_no (fun j hj => ?_)).symm
      rw [decide_eq_false (by omega)]
      rfl) (fun c h1 h2 => e3 c (by omega) h2)
    obtain ⟨h', y1, y2, y3⟩ := ih (a + 1) m h1 (by omega) (by omega) (C.fr (x4.mono E_pc_sc)) x2 (fun c h1 h2 => x3 c (by omega) h2)
    refine ⟨h', ?_, y2, x4.trans y3⟩
    show (if px_c 6 ≤ nI a then _ else _) = _
    rw [bc_6, if_neg (nI_ge (by omega) (by omega)), x1, y1, bc_6]
/-! the fewest boats of each set -/
theorem Y_tb_has {a b : Nat} (hb : b < 6) (e : h 48 a = Y_tb pr a 6) : wu_has (h 48 a) (nI b) h = some (B_01 (decide (a ≤ b) && pr a b), h) := by
  rw [wu_has_eq _ (by omega), e]
  unfold Y_tb
  rw [B_set_bit (by omega) (by omega), decide_eq_true hb, Bool.true_and]
  cases (decide (a ≤ b) && pr a b) <;> rfl
theorem px_min_n {a b : Nat} (ha : a < 2 ^ 31) (hb : b < 2 ^ 31) : px_min (nI a) (nI b) = nI (if b < a then b else a) := by
  rw [px_min_nI ha hb]
  congr 1
  by_cases c : b < a
  · rw [if_pos c]; omega
  · rw [if_neg c]; omega
theorem fl_countBoats_37_s (r11 : Int32 → Int32 → pH → pR) {x : Nat} (hx : x < 64) (h0 : x ≠ 0) (e48 : ∀ c, c < 6 → h 48 c = Y_tb pr c 6) (e49 : ∀ y, y < x → h 49 y = nI (Y_V pr y)) : ∀ (j n m : Nat), Y_f x + n + j = 6 → j < m → fl_countBoats_37 r11 m (nI X) (nI x) (nI (Y_f x)) (nI (Y_a pr x n).1) (nI (Y_f x + n)) h = r11 (nI X) (nI (x + 1)) (px_w h 49 x (nI (Y_V pr x))) := by
  obtain ⟨f1, f2⟩ := Y_f_in x hx h0
  intro j
  induction j with
  | zero =>
    intro n m hn hm
    obtain ⟨m, rfl⟩ : ∃ n', m = n' + 1 := ⟨m - 1, by omega⟩
    show (if px_c 6 ≤ nI (Y_f x + n) then _ else _) = _
    rw [bc_6, if_pos (nI_le (by omega) (by omega)), wp_49 (by omega), B_bind, bc_1, nI_add, (Y_V_eq hx h0).1, show 6 - Y_f x = n by omega]
  | succ j ih =>
    intro n m hn hm
    obtain ⟨m, rfl⟩ : ∃ n', m = n' + 1 := ⟨m - 1, by omega⟩
    have e92 : ∀ x4, fl_countBoats_92 r11 (fl_countBoats_37 r11 m) (nI X) (nI x) (nI (Y_f x)) x4 (nI (Y_f x + n)) h = fl_countBoats_37 r11 m (nI X) (nI x) (nI (Y_f x)) x4 (nI (Y_f x + (n + 1))) h := fun x4 => by
      unfold fl_countBoats_92
      rw [bc_1, nI_add]
      rfl
    have i2 := ih (n + 1) m (by omega) (by omega)
    rw [← i2]
    show (if px_c 6 ≤ nI (Y_f x + n) then _ else _) = _
    rw [bc_6, if_neg (nI_ge (by omega) (by omega)), wu_has_n hx (by omega), B_bind, Y_a_snoc, e92]
    unfold Y_g
    cases hb : x.testBit (Y_f x + n) with
    | false =>
      rw [if_pos (show B_01 false = 0 from rfl), if_neg (fun w => by cases w.1.1)]
    | true =>
      rw [if_neg (show ¬ B_01 true = 0 by decide), wa_48 (by omega), B_bind, Y_tb_has (by omega) (e48 _ f1), B_bind, decide_eq_true (by omega), Bool.true_and]
      cases hp : pr (Y_f x) (Y_f x + n) with
      | false =>
        rw [if_pos (show B_01 false = 0 from rfl), if_neg (fun w => by cases w.1.2), e92]
      | true =>
        have hl := Y_w_lt x hx (Y_f x) f1 (Y_f x + n) (by omega) f2
        have hv := Y_V_le7 (pr := pr) (show Y_w x (Y_f x) (Y_f x + n) < 64 by omega)
        have ha := Y_a_le7 (pr := pr) x n
        rw [if_neg (show ¬ B_01 true = 0 by decide), fl_without_n hx f1 (by omega), B_bind, wa_49 (by omega), B_bind, e49 _ hl, bc_1, nI_add, px_min_n (by omega) (by omega)]
        dsimp only
        rw [e92]
        by_cases c : 1 + Y_V pr (Y_w x (Y_f x) (Y_f x + n)) < (Y_a pr x n).1
        · rw [if_pos c, if_pos ⟨⟨rfl, rfl⟩, c⟩]
        · rw [if_neg c, if_neg (fun w => c w.2)]
theorem fl_countBoats_s (hX : X < 64) (e48 : ∀ c, c < 6 → h 48 c = Y_tb pr c 6) : ∃ h', fl_countBoats (nI X) h = some (nI (Y_V pr X), h') ∧ (∀ y, y ≤ X → h' 49 y = nI (Y_V pr y)) ∧ B_fr (E_a 49) h h' := by
  have H : ∀ (j x n : Nat) (g : pH), x + j = X + 1 → 1 ≤ x → j < n → B_fr (E_a 49) h g → (∀ y, y < x → g 49 y = nI (Y_V pr y)) → ∃ h', fl_countBoats_11 n (nI X) (nI x) g = some (nI (Y_V pr X), h') ∧ (∀ y, y ≤ X → h' 49 y = nI (Y_V pr y)) ∧ B_fr (E_a 49) h h' := by
    intro j
    induction j with
    | zero =>
      intro x n g hx h1 hn F e
      obtain ⟨n, rfl⟩ : ∃ n', n = n' + 1 := ⟨n - 1, by omega⟩
      refine ⟨g, ?_, fun y hy => e y (by omega), F⟩
      show (if nI X < nI x then _ else _) = _
      rw [if_pos (by rw [bn_lt (by omega) (by omega)]; omega)]
      unfold fl_countBoats_114
      rw [wa_49 (by omega), B_bind, e X (by omega)]
    | succ j ih =>
      intro x n g hx h1 hn F e
      obtain ⟨n, rfl⟩ : ∃ n', n = n' + 1 := ⟨n - 1, by omega⟩
      obtain ⟨h', x1, x2⟩ := ih (x + 1) n (px_w g 49 x (nI (Y_V pr x))) (by omega) (by omega) (by omega) (F.w rfl) (fun y hy => by
        rw [B_w_at]
        by_cases w : y = x
        · rw [if_pos w, w]
        · rw [if_neg w]
          exact e y (by omega))
      refine ⟨h', ?_, x2⟩
      have s := fl_countBoats_37_s (h := g) (X := X) (fl_countBoats_11 n) (show x < 64 by omega) (show x ≠ 0 by omega) (fun c hc => by rw [F 48 c rfl]; exact e48 c hc) e (6 - Y_f x) 0 px_F (by have := (Y_f_in x (by omega) (by omega)).1; omega) (px_F_lt (by omega))
      show (if nI X < nI x then _ else if nI 64 ≤ nI x then _ else _) = _
      rw [if_neg (fun w => by rw [bn_lt (by omega) (by omega)] at w; omega), if_neg (nI_ge (by omega) (by omega)), wu_firstOf_n (show x < 64 by omega) (by omega), B_bind, bc_7, ← x1, ← s]
      rfl
  unfold fl_countBoats
  rw [bc_0, wq_49, B_bind, bc_1]
  exact H X 1 px_F _ (by omega) (by omega) (px_F_lt (by omega)) ((B_fr.refl _ _).w rfl) (fun y hy => by
    have : y = 0 := by omega
    subst this
    rw [B_w_same, Y_V_0]
    exact nI_0.symm)
theorem fl_firstPartner_s {x : Nat} (hx : x < 64) (h0 : x ≠ 0) (h7 : Y_V pr x < 7) (e48 : ∀ c, c < 6 → h 48 c = Y_tb pr c 6) (e49 : ∀ y, y ≤ x → h 49 y = nI (Y_V pr y)) : fl_firstPartner (nI x) (nI (Y_f x)) h = some (nI (Y_P pr x), h) := by
  obtain ⟨f1, f2⟩ := Y_f_in x hx h0
  obtain ⟨p1, p2, p3, p4, p5⟩ := Y_P_sp hx h0 h7
  have hgood : ∀ b n, b < 6 → Y_f x ≤ b → (px_bind (wu_has (nI x) (nI b) h) fun z1 h2 => if z1 = 0 then fl_firstPartner_59 (fl_firstPartner_2 n) (nI x) (nI (Y_f x)) (nI b) h2 else px_bind (wu_at 48 (nI (Y_f x)) h2) fun z3 h4 => px_bind (wu_has z3 (nI b) h4) fun z5 h6 => if z5 = 0 then fl_firstPartner_59 (fl_firstPartner_2 n) (nI x) (nI (Y_f x)) (nI b) h6 else px_bind (fl_without (nI x) (nI (Y_f x)) (nI b) h6) fun z7 h8 => px_bind (wu_at 49 z7 h8) fun z9 h10 => px_bind (wu_at 49 (nI x) h10) fun z11 h12 => if ((px_c 1) + z9) = z11 then some (nI b, h12) else fl_firstPartner_59 (fl_firstPartner_2 n) (nI x) (nI (Y_f x)) (nI b) h12) = if (x.testBit b = true ∧ pr (Y_f x) b = true) ∧ 1 + Y_V pr (Y_w x (Y_f x) b) = Y_V pr x then some (nI b, h) else fl_firstPartner_2 n (nI x) (nI (Y_f x)) (nI (b + 1)) h := by
    intro b n hb hab
    have e59 : ∀ g, fl_firstPartner_59 (fl_firstPartner_2 n) (nI x) (nI (Y_f x)) (nI b) g = fl_firstPartner_2 n (nI x) (nI (Y_f x)) (nI (b + 1)) g := fun g => by
      unfold fl_firstPartner_59
      rw [bc_1, nI_add]
    rw [wu_has_n hx (by omega), B_bind, e59]
    cases c1 : x.testBit b with
    | false => rw [if_pos (show B_01 false = 0 from rfl), if_neg (fun w => by cases w.1.1)]
    | true =>
      rw [if_neg (show ¬ B_01 true = 0 by decide), wa_48 (by omega), B_bind, Y_tb_has (by omega) (e48 _ f1), B_bind, decide_eq_true hab, Bool.true_and, e59]
      cases c2 : pr (Y_f x) b with
      | false => rw [if_pos (show B_01 false = 0 from rfl), if_neg (fun w => by cases w.1.2)]
      | true =>
        have hl := Y_w_lt x hx (Y_f x) f1 b hb f2
        have hv := Y_V_le7 (pr := pr) (show Y_w x (Y_f x) b < 64 by omega)
        rw [if_neg (show ¬ B_01 true = 0 by decide), fl_without_n hx f1 hb, B_bind, wa_49 (by omega), B_bind, wa_49 (by omega), B_bind, e49 _ (by omega), e49 _ (Nat.le_refl _), bc_1, nI_add, e59]
        by_cases c3 : 1 + Y_V pr (Y_w x (Y_f x) b) = Y_V pr x
        · rw [if_pos (by rw [c3]), if_pos ⟨⟨rfl, rfl⟩, c3⟩]
        · rw [if_neg (fun w => c3 (by rw [bn_eq (by omega) (by omega)] at w; exact w)), if_neg (fun w => c3 w.2)]
  have H : ∀ (j b n : Nat), b + j = Y_P pr x → Y_f x ≤ b → j < n → fl_firstPartner_2 n (nI x) (nI (Y_f x)) (nI b) h = some (nI (Y_P pr x), h) := by
    intro j
    induction j with
    | zero =>
      intro b n hb hab hn
      obtain ⟨n, rfl⟩ : ∃ n', n = n' + 1 := ⟨n - 1, by omega⟩
      have eb : b = Y_P pr x := by omega
      subst eb
      show (if px_c 6 ≤ nI (Y_P pr x) then _ else _) = _
      rw [bc_6, if_neg (nI_ge (by omega) (by omega)), hgood _ n p2 hab, if_pos ⟨p3, p4⟩]
    | succ j ih =>
      intro b n hb hab hn
      obtain ⟨n, rfl⟩ : ∃ n', n = n' + 1 := ⟨n - 1, by omega⟩
      show (if px_c 6 ≤ nI b then _ else _) = _
      rw [bc_6, if_neg (nI_ge (by omega) (by omega)), hgood _ n (by omega) hab, if_neg (fun w => by
        have := p5 b hab (by omega) w.1
        omega)]
      exact ih (b + 1) n (by omega) (by omega) (by omega)
  unfold fl_firstPartner
  exact H (Y_P pr x - Y_f x) (Y_f x) px_F (by omega) (Nat.le_refl _) (px_F_lt (by omega))
theorem fl_tellBoats_s (hX : X < 64) (h7 : Y_V pr X < 7) (e48 : ∀ c, c < 6 → h 48 c = Y_tb pr c 6) (e49 : ∀ y, y ≤ X → h 49 y = nI (Y_V pr y)) : ∃ h', fl_tellBoats (nI X) h = some (0, h') ∧ B_rc h' (Y_l X (Y_S pr 64 X (h 50)) 6) ∧ B_fr B_sc h h' := by
  have HT : ∀ (j k n : Nat) (g g0 : pH), k + j = 6 → j < n → B_fr B_frw g0 g → B_rc g (Y_l X (g0 50) k) → ∃ h', fl_tellBoats_74 n (nI X) (nI k) g = some (0, h') ∧ B_rc h' (Y_l X (g0 50) 6) ∧ B_fr B_frw g0 h' := by
    intro j
    induction j with
    | zero =>
      intro k n g g0 hk hn F R
      obtain ⟨n, rfl⟩ : ∃ n', n = n' + 1 := ⟨n - 1, by omega⟩
      have ek : k = 6 := by omega
      subst ek
      refine ⟨g, ?_, R, F⟩
      show (if px_c 6 ≤ nI 6 then _ else _) = _
      rw [bc_6, if_pos (nI_le (by omega) (by omega))]
    | succ j ih =>
      intro k n g g0 hk hn F R
      obtain ⟨n, rfl⟩ : ∃ n', n = n' + 1 := ⟨n - 1, by omega⟩
      have e103 : ∀ g', fl_tellBoats_103 (fl_tellBoats_74 n) (nI X) (nI k) g' = fl_tellBoats_74 n (nI X) (nI (k + 1)) g' := fun g' => by
        unfold fl_tellBoats_103
        rw [bc_1, nI_add]
      have ec : Y_l X (g0 50) (k + 1) = Y_l X (g0 50) k ++ (if X.testBit k = true then [g0 50 k] else []) := rfl
      have hlen := Y_l_len X (g0 50) k
      cases hb : X.testBit k with
      | false =>
        rw [hb, if_neg (by decide), List.append_nil] at ec
        obtain ⟨h', x1, x2⟩ := ih (k + 1) n g g0 (by omega) (by omega) F (by rw [ec]; exact R)
        refine ⟨h', ?_, x2⟩
        show (if px_c 6 ≤ nI k then _ else _) = _
        rw [bc_6, if_neg (nI_ge (by omega) (by omega)), wu_has_n hX (by omega), B_bind, hb, if_pos (show B_01 false = 0 from rfl), e103, x1]
      | true =>
        rw [hb, if_pos rfl] at ec
        obtain ⟨h1, a1, a2, a3⟩ := tl_add_s (g0 50 k) R (by omega)
        obtain ⟨h', x1, x2⟩ := ih (k + 1) n h1 g0 (by omega) (by omega) (F.trans a3) (by rw [ec]; exact a2)
        refine ⟨h', ?_, x2⟩
        show (if px_c 6 ≤ nI k then _ else _) = _
        rw [bc_6, if_neg (nI_ge (by omega) (by omega)), wu_has_n hX (by omega), B_bind, hb, if_neg (show ¬ B_01 true = 0 by decide), wa_50 (by omega), B_bind, F 50 k rfl, a1, B_bind, e103, x1]
  have H : ∀ (j k n x : Nat) (g : pH), k + j = 6 → j < n → x ≤ X → (∀ c, c < k → x.testBit c = false) → Y_V pr x < 7 → B_fr (E_a 50) h g → (∀ c, c < 6 → Y_S pr 64 x (g 50) c = Y_S pr 64 X (h 50) c) → ∃ h', fl_tellBoats_5 n (nI X) (nI x) (nI k) g = some (0, h') ∧ B_rc h' (Y_l X (Y_S pr 64 X (h 50)) 6) ∧ B_fr B_sc h h' := by
    intro j
    induction j with
    | zero =>
      intro k n x g hk hn hx hlo hv F e
      obtain ⟨n, rfl⟩ : ∃ n', n = n' + 1 := ⟨n - 1, by omega⟩
      have x0 : x = 0 := Y_zero (by omega) (fun c hc => hlo c (by omega))
      subst x0
      have F2 : B_fr B_frw g (px_w g 45 1 0) := (B_fr.refl _ _).w rfl
      have R0 : B_rc (px_w g 45 1 0) (Y_l X ((px_w g 45 1 0) 50) 0) := B_rc_nil g
      obtain ⟨h', x1, x2, x3⟩ := HT 6 0 px_F (px_w g 45 1 0) (px_w g 45 1 0) rfl (px_F_lt (by omega)) (B_fr.refl _ _) R0
      have el : Y_l X ((px_w g 45 1 0) 50) 6 = Y_l X (Y_S pr 64 X (h 50)) 6 := Y_l_ext 6 (fun c hc _ => by
        rw [← e c hc, B_w_cell _ _ _ (show (50 : Nat) ≠ 45 by decide)]
        rfl)
      rw [el] at x2
      refine ⟨h', ?_, x2, (F.mono (fun a k e => by
        have := Nat.eq_of_beq_eq_true e
        subst this
        rfl)).trans ((F2.trans x3).mono B_frw_sc)⟩
      show (if px_c 6 ≤ nI k then _ else _) = _
      rw [bc_6, if_pos (nI_le (by omega) (by omega)), tl_clear_s, B_bind, bc_0, ← nI_0]
      rw [← nI_0] at x1
      exact x1
    | succ j ih =>
      intro k n x g hk hn hx hlo hv F e
      obtain ⟨n, rfl⟩ : ∃ n', n = n' + 1 := ⟨n - 1, by omega⟩
      have e61 : ∀ x3 g', fl_tellBoats_61 (fl_tellBoats_5 n) (nI X) x3 (nI k) g' = fl_tellBoats_5 n (nI X) x3 (nI (k + 1)) g' := fun x3 g' => by
        unfold fl_tellBoats_61
        rw [bc_1, nI_add]
      have x64 : x < 64 := by omega
      have hstep : ∀ y, fl_tellBoats_5 (n + 1) (nI X) (nI x) (nI k) g = y ↔ (if B_01 (x.testBit k) = 0 then fl_tellBoats_5 n (nI X) (nI x) (nI (k + 1)) g else px_bind (fl_firstPartner (nI x) (nI k) g) fun z5 h6 => px_bind (wu_put 50 (nI k) z5 h6) fun _ h8 => px_bind (wu_put 50 z5 (nI k) h8) fun _ h10 => px_bind (fl_without (nI x) (nI k) z5 h10) fun z11 h12 => fl_tellBoats_5 n (nI X) z11 (nI (k + 1)) h12) = y := fun y => by
        have : fl_tellBoats_5 (n + 1) (nI X) (nI x) (nI k) g = (if B_01 (x.testBit k) = 0 then fl_tellBoats_5 n (nI X) (nI x) (nI (k + 1)) g else px_bind (fl_firstPartner (nI x) (nI k) g) fun z5 h6 => px_bind (wu_put 50 (nI k) z5 h6) fun _ h8 => px_bind (wu_put 50 z5 (nI k) h8) fun _ h10 => px_bind (fl_without (nI x) (nI k) z5 h10) fun z11 h12 => fl_tellBoats_5 n (nI X) z11 (nI (k + 1)) h12) := by
          show (if px_c 6 ≤ nI k then _ else _) = _
          rw [bc_6, if_neg (nI_ge (by omega) (by omega)), wu_has_n x64 (by omega), B_bind]
          simp only [e61]
        rw [this]
      cases hb : x.testBit k with
      | false =>
        obtain ⟨h', x1, x2⟩ := ih (k + 1) n x g (by omega) (by omega) hx (fun c hc => by
          by_cases w : c = k
          · rw [w]; exact hb
          · exact hlo c (by omega)) hv F e
        refine ⟨h', ?_, x2⟩
        rw [hstep, hb, if_pos (show B_01 false = 0 from rfl), x1]
      | true =>
        have h0 : x ≠ 0 := fun w => by rw [w, Nat.zero_testBit] at hb; cases hb
        have ef : Y_f x = k := Y_f_eq x x64 k (by omega) hb hlo
        obtain ⟨p1, p2, p3, p4, p5⟩ := Y_P_sp x64 h0 hv
        obtain ⟨f1, f2⟩ := Y_f_in x x64 h0
        have hl := Y_w_lt x x64 (Y_f x) f1 (Y_P pr x) p2 f2
        have fp := fl_firstPartner_s (h := g) x64 h0 hv (fun c hc => by rw [F 48 c rfl]; exact e48 c hc) (fun y hy => by rw [F 49 y rfl]; exact e49 y (by omega))
        rw [ef] at fp hl p4
        have eup : (px_w (px_w g 50 k (nI (Y_P pr x))) 50 (Y_P pr x) (nI k)) 50 = Y_up (g 50) k (Y_P pr x) := by
          funext c
          rw [B_w_at, B_w_at]
          rfl
        obtain ⟨h', x1, x2⟩ := ih (k + 1) n (Y_w x k (Y_P pr x)) (px_w (px_w g 50 k (nI (Y_P pr x))) 50 (Y_P pr x) (nI k)) (by omega) (by omega) (by omega) (fun c hc => by
          rw [Y_w_bit x x64 k (by omega) _ p2 c (by omega)]
          by_cases w : c = k
          · rw [decide_eq_true w]
            simp
          · rw [hlo c (by omega)]
            rfl) (by omega) ((F.w rfl).w rfl) (fun c hc => by
          rw [eup, ← e c hc]
          have := Y_S_step (pr := pr) (m := g 50) x64 h0 (show x ≤ 64 by omega) hv
          rw [ef] at this
          rw [this])
        refine ⟨h', ?_, x2⟩
        rw [hstep, hb, if_neg (show ¬ B_01 true = 0 by decide), fp, B_bind, wp_50 (by omega), B_bind, wp_50 (by omega), B_bind, fl_without_n x64 (by omega) p2, B_bind, x1]
  unfold fl_tellBoats
  rw [bc_0]
  have := H 6 0 px_F X h rfl (px_F_lt (by omega)) (Nat.le_refl _) (fun c hc => by omega) h7 (B_fr.refl _ _) (fun _ _ => rfl)
  rw [nI_0] at this
  exact this
end PARTYC
