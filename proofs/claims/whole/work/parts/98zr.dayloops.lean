/-! Layer B: day: the acts, read and done -/
def S_dl (sg : Nat → Nat) (n m : Nat) : Nat → Nat → List dA × Option Nat
  | 0, _ => ([], some 0)
  | d + 1, k => match (S_act1 sg m k).2.2 with
    | some f => ([], some f)
    | none => if (S_act1 sg m k).2.1 < m ∧ sg (S_act1 sg m k).2.1 = 59 then ((S_act1 sg m k).1 :: (S_dl sg n m d ((S_act1 sg m k).2.1 + 1)).1, (S_dl sg n m d ((S_act1 sg m k).2.1 + 1)).2) else ([(S_act1 sg m k).1], if (S_act1 sg m k).2.1 = n then none else some (S_act1 sg m k).2.1)
noncomputable def S_de (ev : pE) (P T K Y : Nat) : List dA → pH → Nat × Nat × Nat × pH
  | [], Z => (0, 0, 0, Z)
  | a :: l, Z => match S_do ev P T K Y Z a with
    | none => (0, 1, 0, Z)
    | some x => ((S_de ev P T K Y l x.1).1 + 1, (S_de ev P T K Y l x.1).2.1, (S_de ev P T K Y l x.1).2.2.1 + x.2, (S_de ev P T K Y l x.1).2.2.2)
section DLOOP
variable {n m mo : Nat} {sg : Nat → Nat} {P T K Y : Nat} {ev : pE}
theorem S_dl_ok : ∀ (d k : Nat), k ≤ m → (∀ a, a ∈ (S_dl sg n m d k).1 → d_ok a) ∧ (∀ f, (S_dl sg n m d k).2 = some f → f ≤ m) ∧ k + 3 * (S_dl sg n m d k).1.length ≤ m := by
  intro d
  induction d with
  | zero => intro k hk; exact ⟨(fun a ha => by cases ha), (fun f e => by cases e; omega), by show k + 3 * 0 ≤ m; omega⟩
  | succ d ih =>
    intro k hk
    unfold S_dl
    cases hf : (S_act1 sg m k).2.2 with
    | some f => exact ⟨(fun a ha => by cases ha), (fun f' e => by cases e; exact S_act1_f hk hf), by show k + 3 * 0 ≤ m; omega⟩
    | none =>
      obtain ⟨s1, s2, s3⟩ := S_act1_ok hf
      dsimp only
      by_cases q : (S_act1 sg m k).2.1 < m ∧ sg (S_act1 sg m k).2.1 = 59
      · rw [if_pos q]
        obtain ⟨i1, i2, i3⟩ := ih ((S_act1 sg m k).2.1 + 1) (by omega)
        refine ⟨fun a ha => ?_, i2, by rw [List.length_cons]; omega⟩
        rcases List.mem_cons.mp ha with e | e
        · rw [e]
          exact s1
        · exact i1 a e
      · rw [if_neg q]
        refine ⟨fun a ha => ?_, fun f e => ?_, by show k + 3 * 1 ≤ m; omega⟩
        · rw [List.mem_singleton] at ha
          rw [ha]
          exact s1
        · dsimp only at e
          by_cases w : (S_act1 sg m k).2.1 = n
          · rw [if_pos w] at e
            cases e
          · rw [if_neg w] at e
            cases e
            exact s3
theorem S_de_ok : ∀ (l : List dA) (Z : pH), (∀ a, a ∈ l → d_ok a) → R_w P T K Y Z → R_w P T K Y (S_de ev P T K Y l Z).2.2.2 ∧ (∀ i k, i ≠ 1 → i ≠ 2 → i ≠ 4 → i ≠ 6 → i ≠ 8 → i ≠ 9 → (S_de ev P T K Y l Z).2.2.2 i k = Z i k) ∧ (S_de ev P T K Y l Z).1 ≤ l.length ∧ (S_de ev P T K Y l Z).2.1 = (if (S_de ev P T K Y l Z).1 < l.length then 1 else 0) ∧ (S_de ev P T K Y l Z).2.2.1 ≤ (S_de ev P T K Y l Z).1 ∧ ((S_de ev P T K Y l Z).1 = 0 → (S_de ev P T K Y l Z).2.2.2 = Z) := by
  intro l
  induction l with
  | nil => intro Z _ W; exact ⟨W, fun _ _ _ _ _ _ _ _ => rfl, Nat.le_refl _, rfl, Nat.le_refl _, fun _ => rfl⟩
  | cons a l ih =>
    intro Z ha W
    unfold S_de
    cases hd : S_do ev P T K Y Z a with
    | none =>
      refine ⟨W, fun _ _ _ _ _ _ _ _ => rfl, Nat.zero_le _, ?_, Nat.le_refl _, fun _ => rfl⟩
      show 1 = if 0 < (a :: l).length then 1 else 0
      rw [if_pos (by rw [List.length_cons]; omega)]
    | some x =>
      obtain ⟨Z2, b⟩ := x
      obtain ⟨w1, w2, w3⟩ := S_do_W (ha a (List.mem_cons_self ..)) W hd
      obtain ⟨i1, i2, i3, i4, i5, i6⟩ := ih Z2 (fun a h => ha a (List.mem_cons_of_mem _ h)) w1
      refine ⟨i1, fun i k h1 h2 h4 h6 h8 h9 => (i2 i k h1 h2 h4 h6 h8 h9).trans (w2 i k h1 h2 h4 h6 h8 h9), by rw [List.length_cons]; dsimp only; omega, ?_, by dsimp only; omega, fun e => by dsimp only at e; omega⟩
      dsimp only
      rw [i4, List.length_cons]
      by_cases w : (S_de ev P T K Y l Z2).1 < l.length
      · rw [if_pos w, if_pos (by omega)]
      · rw [if_neg w, if_neg (by omega)]
/-! reading: one side -/
theorem ac_check_17_s (hm : m ≤ n) (hn : n ≤ 80) (hm60 : m ≤ 60) (hs : ∀ j, j < n → sg j < 256) : ∀ (d k g x : Nat) (h : pH), m - k < d → d < g → k ≤ m → 3 * x ≤ k + 3 → 1 ≤ x → C_rd h n m k sg → (∀ f, (S_dl sg n m d k).2 = some f → ∃ h', ac_check_17 g (nI x) h = some (-1 - nI f, h') ∧ B_fr E_act h h') ∧ ((S_dl sg n m d k).2 = none → ∃ h', ac_check_17 g (nI x) h = some (nI (x - 1 + (S_dl sg n m d k).1.length), h') ∧ B_fr E_act h h') := by
  intro d
  induction d with
  | zero => intro k g x h hd; omega
  | succ d ih =>
    intro k g x h hd hg hk hx hx1 C
    obtain ⟨g, rfl⟩ : ∃ n', g = n' + 1 := ⟨g - 1, by omega⟩
    obtain ⟨r, h1, a1, a2, a3, a4, a5⟩ := ac_readNext_s hm hn hk hs C
    have e59 : px_c 59 = nI 59 := bc_59
    have hz : ac_check_17 (g + 1) (nI x) h = px_bind (ac_readNext h) fun z1 h2 => if z1 = 0 then px_bind (tx_answer h2) fun z3 h4 => some (z3, h4) else px_bind (tx_meet (nI 59) h2) fun z5 h6 => if z5 = 0 then px_bind (tx_closes h6) fun z7 h8 => if z7 = 0 then px_bind (tx_answer h8) fun z9 h10 => ac_check_60 z9 h10 else ac_check_60 (nI x) h8 else ac_check_17 g (nI (x + 1)) h6 := by
      show (if px_c 60 < nI x then _ else _) = _
      rw [bc_60, if_neg (fun w => by rw [bn_lt (by omega) (by omega)] at w; omega), e59, bc_1, nI_add]
    rw [hz, a1, B_bind]
    unfold S_dl
    cases hf : (S_act1 sg m k).2.2 with
    | some f =>
      refine ⟨fun f' w => ?_, fun w => by cases w⟩
      cases w
      rw [hf, if_neg (fun w => by cases w)] at a2
      refine ⟨h1, ?_, a5⟩
      rw [a2, if_pos rfl]
      unfold tx_answer
      rw [a4 f hf, bc_m1, B_bind]
    | none =>
      obtain ⟨s1, s2, s3⟩ := S_act1_ok hf
      rw [hf, if_pos rfl] at a2
      obtain ⟨C2, -⟩ := a3 hf
      dsimp only
      rw [a2, if_neg (show ¬ nI 1 = 0 by decide), tx_meet_m C2 hm hn s3 hs (z := 59) (by omega)]
      generalize (S_act1 sg m k).2.1 = k2 at *
      by_cases q : k2 < m ∧ sg k2 = 59
      · rw [if_pos q, if_pos q, B_bind, if_neg (show ¬ nI 1 = 0 by decide)]
        obtain ⟨i1, i2⟩ := ih (k2 + 1) g (x + 1) _ (by omega) (by omega) (by omega) (by omega) (by omega) (C2.to (k2 + 1))
        have F2 : B_fr E_act h (px_w h1 1 2 (nI (k2 + 1))) := a5.w rfl
        refine ⟨fun f e => ?_, fun e => ?_⟩
        · obtain ⟨h', b1, b2⟩ := i1 f e
          exact ⟨h', b1, F2.trans b2⟩
        · obtain ⟨h', b1, b2⟩ := i2 e
          refine ⟨h', ?_, F2.trans b2⟩
          rw [b1, List.length_cons, show x - 1 + ((S_dl sg n m d (k2 + 1)).1.length + 1) = x + 1 - 1 + (S_dl sg n m d (k2 + 1)).1.length by omega]
      · rw [if_neg q, if_neg q, B_bind, if_pos (show (0 : Int32) = 0 from rfl)]
        have ecl : tx_closes h1 = if k2 = n then some (nI 1, h1) else some (0, px_w h1 1 4 (nI k2)) := by
          unfold tx_closes tx_closes_18 tx_closes_23 tx_refuse
          rw [C2.2.1, C2.1, bc_1, bc_0, B_bz1]
          by_cases w : k2 = n
          · rw [if_pos (by rw [w]), if_pos w]
          · rw [if_neg (fun e => by rw [bn_eq (by omega) (by omega)] at e; exact w e), if_neg w]
            dsimp only
            rw [B_bz0, B_bind, if_pos rfl, B_bz0]
        rw [ecl]
        by_cases w : k2 = n
        · rw [if_pos w, if_pos w]
          refine ⟨fun f e => (by cases e), fun _ => ⟨h1, ?_, a5⟩⟩
          rw [B_bind, if_neg (by decide)]
          unfold ac_check_60
          rw [show x - 1 + [(S_act1 sg m k).1].length = x by rw [List.length_singleton]; omega]
        · rw [if_neg w, if_neg w]
          refine ⟨fun f e => ?_, fun e => by cases e⟩
          cases e
          refine ⟨px_w h1 1 4 (nI k2), ?_, a5.w rfl⟩
          rw [B_bind, if_pos rfl]
          unfold tx_answer ac_check_60
          rw [B_w_same, bc_m1, B_bind]
/-! reading: the other side -/
def E_md : Nat → Nat → Bool := fun a k => match a with
  | 51 => [18, 19].contains k
  | 69 => true
  | _ => false
theorem E_ma_md {q : Nat} : ∀ a k, E_ma q a k = true → E_md a k = true := fun a k e => by
  unfold E_ma at e
  split at e
  · exact e
  · rfl
  · cases e
theorem mo_day_90_f {h : pH} {k f : Nat} {x : Int32} (hf : f < 2 ^ 31) (M : M_rd h n mo k sg (some f)) : mo_day_71 x h = some (-1 - nI f, h) := by
  have e90 : mo_day_90 x h = some (-1 - nI f, h) := by
    unfold mo_day_90
    rw [mo_fine_1 hf M, B_bind, if_pos rfl, bc_m1, M.2.2.2.2.1]
    rfl
  unfold mo_day_71
  rw [mo_fault_1 hf M, B_bind, e90]
  split <;> rfl
theorem mo_day_39_s (hn : n ≤ 80) (hmo : mo = 60) (hs : ∀ j, j < n → sg j < 256) : ∀ (d k g x : Nat) (h : pH), min n mo - k < d → d + 1 < g → k ≤ min n mo → 3 * x ≤ k → M_rd h n mo k sg none → (∀ f, (S_dl sg n (min n mo) d k).2 = some f → ∃ h', mo_day_39 g (nI x) (nI 1) h = some (-1 - nI f, h') ∧ B_fr E_md h h') ∧ ((S_dl sg n (min n mo) d k).2 = none → ∃ h' k', mo_day_39 g (nI x) (nI 1) h = mo_day_90 (nI (x + (S_dl sg n (min n mo) d k).1.length)) h' ∧ M_rd h' n mo k' sg none ∧ (∀ i, i < (S_dl sg n (min n mo) d k).1.length → M_act h' (11 * (x + i)) ((S_dl sg n (min n mo) d k).1.getD i (0, 0, 0, 0, []))) ∧ (∀ j, j < 11 * x → h' 69 j = h 69 j) ∧ B_fr E_md h h') := by
  intro d
  induction d with
  | zero => intro k g x h hd; omega
  | succ d ih =>
    intro k g x h hd hg hk hx M
    obtain ⟨g, rfl⟩ : ∃ n', g = n' + 2 := ⟨g - 2, by omega⟩
    have hmo31 : mo < 2 ^ 31 := by omega
    obtain ⟨h1, a1, ⟨k2, a2, a3⟩, a4, a5⟩ := mo_readAct_s (q := x) hn hmo31 hs (by omega) hk M
    have e59 : px_c 59 = nI 59 := bc_59
    have e11 : px_c 11 = nI 11 := bc_11
    have hz : mo_day_39 (g + 2) (nI x) (nI 1) h = px_bind (mo_readAct (nI (11 * x)) h) fun _ h4 => px_bind (mo_passes (nI 59) h4) fun z5 h6 => mo_day_39 (g + 1) (nI (x + 1)) z5 h6 := by
      show (if nI 1 = 0 then _ else _) = _
      rw [if_neg (by decide), mo_fine_0 M, B_bind, if_neg (by decide), e59, e11, pk_mul, bc_1, nI_add]
    have h71 : ∀ y hh, mo_day_39 (g + 1) y 0 hh = mo_day_71 y hh := fun y hh => by
      show (if (0 : Int32) = 0 then _ else _) = _
      rw [if_pos rfl]
    rw [hz, a1, B_bind]
    unfold S_dl
    cases hf : (S_act1 sg (min n mo) k).2.2 with
    | some f =>
      have hfl := S_act1_f hk hf
      refine ⟨fun f' w => ?_, fun w => by cases w⟩
      cases w
      rw [hf] at a2
      refine ⟨h1, ?_, a5.mono E_ma_md⟩
      rw [mo_passes_1 (by omega) a2, B_bind, h71, mo_day_90_f (by omega) a2]
    | none =>
      obtain ⟨s1, s2, s3⟩ := S_act1_ok hf
      have e2 := a3 hf
      have A := a4 hf
      rw [hf] at a2
      subst e2
      dsimp only
      generalize (S_act1 sg (min n mo) k).2.1 = k2 at *
      rw [mo_passes_0 a2 hn hmo31 (by omega) hs (z := 59) (by omega)]
      by_cases q : k2 < min n mo ∧ sg k2 = 59
      · rw [if_pos q, if_pos q, B_bind]
        obtain ⟨i1, i2⟩ := ih (k2 + 1) (g + 1) (x + 1) _ (by omega) (by omega) (by omega) (by omega) (a2.to (k2 + 1))
        have F2 : B_fr E_md h (px_w h1 51 18 (nI (k2 + 1))) := (a5.mono E_ma_md).w rfl
        refine ⟨fun f e => ?_, fun e => ?_⟩
        · obtain ⟨h', b1, b2⟩ := i1 f e
          exact ⟨h', b1, F2.trans b2⟩
        · obtain ⟨h', k', b1, b2, b3, b4, b5⟩ := i2 e
          refine ⟨h', k', ?_, b2, fun i hi => ?_, fun j hj => ?_, F2.trans b5⟩
          · rw [b1, List.length_cons, show x + ((S_dl sg n (min n mo) d (k2 + 1)).1.length + 1) = x + 1 + (S_dl sg n (min n mo) d (k2 + 1)).1.length by omega]
          · cases i with
            | zero =>
              show M_act h' (11 * (x + 0)) (S_act1 sg (min n mo) k).1
              rw [Nat.add_zero]
              obtain ⟨v0, v1, v3, v2, v9⟩ := A
              have hc : ∀ j, j < 11 * (x + 1) → h' 69 j = h1 69 j := fun j hj => by rw [b4 j hj, B_w_cell _ _ _ (by decide)]
              refine ⟨by rw [hc _ (by omega), v0], by rw [hc _ (by omega), v1], by rw [hc _ (by omega), v3], fun e => by rw [hc _ (by omega), v2 e], fun e => ?_⟩
              obtain ⟨v4, v5⟩ := v9 e
              have hl6 := s1.2.2.2.2.2.1
              exact ⟨by rw [hc _ (by omega), v4], fun i hi => by rw [hc _ (by omega), v5 i hi]⟩
            | succ i =>
              rw [List.length_cons] at hi
              have := b3 i (by omega)
              rw [show x + (i + 1) = x + 1 + i by omega]
              exact this
          · rw [b4 j (by omega), B_w_cell _ _ _ (by decide), a5 69 j (E_ma_69f (by omega))]
      · rw [if_neg q, if_neg q, B_bind, h71]
        by_cases w : k2 = n
        · rw [if_pos w]
          refine ⟨fun f e => (by cases e), fun _ => ⟨h1, k2, ?_, a2, fun i hi => ?_, fun j hj => ?_, a5.mono E_ma_md⟩⟩
          · unfold mo_day_71
            rw [a2.2.1, a2.2.2.2.1, if_pos (nI_le (by omega) (by omega))]
            rfl
          · have hi0 : i = 0 := by
              rw [List.length_singleton] at hi
              omega
            subst hi0
            exact A
          · rw [a5 69 j (E_ma_69f (by omega))]
        · rw [if_neg w]
          refine ⟨fun f e => ?_, fun e => by cases e⟩
          cases e
          refine ⟨px_w h1 51 19 (nI k2), ?_, (a5.mono E_ma_md).w rfl⟩
          have e90 : ∀ y, mo_day_90 y (px_w h1 51 19 (nI k2)) = some (-1 - nI k2, px_w h1 51 19 (nI k2)) := fun y => by
            unfold mo_day_90
            rw [mo_fine_1 (show k2 < 2 ^ 31 by omega) (a2.fl k2), B_bind, if_pos rfl, bc_m1, (a2.fl k2).2.2.2.2.1]
            rfl
          unfold mo_day_71
          rw [a2.2.1, a2.2.2.2.1, if_neg (nI_ge (by omega) (by omega)), mo_fault_0 a2, B_bind, e90]
/-! doing: one side -/
def E_dd : Nat → Nat → Bool := fun a k => match a with
  | 1 => [2, 3, 4].contains k
  | 43 => true
  | 44 => true
  | a => E_dc a k
theorem E_act_dd : ∀ a k, E_act a k = true → E_dd a k = true := fun a k e => by
  unfold E_act at e
  split at e
  · exact e
  · rfl
  · rfl
  · cases e
theorem E_dc_dd : ∀ a k, E_dc a k = true → E_dd a k = true := fun a k e => by
  unfold E_dd
  split
  · exact absurd e (by
      unfold E_dc E_k
      simp)
  · rfl
  · rfl
  · exact e
theorem C_h.dd {h h' : pH} {Z Z2 : pH} (C : C_h h P T K Y Z ev) (x : B_fr E_dd h h') (R : R_c h' P T K Y Z2) : C_h h' P T K Y Z2 ev := by
  refine ⟨R, ?_⟩
  rw [x 17 4 rfl, x.row 18 (fun _ => rfl)]
  exact C.2
theorem R_c.act {h h' : pH} {Z : pH} (R : R_c h P T K Y Z) (x : B_fr E_act h h') : R_c h' P T K Y Z := R.cs (fun a h1 h2 => x.row a (fun k => by
  unfold E_act
  split
  all_goals (first | rfl | (exfalso; omega))))
theorem wu_day_57_s (hm : m ≤ n) (hn : n ≤ 80) (hm60 : m ≤ 60) (hs : ∀ j, j < n → sg j < 256) : ∀ (l : List dA) (d k j c g : Nat) (Z : pH) (h : pH), (l = [] ∨ (k ≤ m ∧ S_dl sg n m d k = (l, none))) → C_h h P T K Y Z ev → R_w P T K Y Z → C_rd h n m k sg → j + l.length ≤ 80 → c ≤ j → l.length + 1 < g → ∃ h', wu_day_57 g (nI (j + l.length)) (nI j) 0 (nI c) (nI j) h = wu_day_164 (nI (j + (S_de ev P T K Y l Z).1)) (nI (S_de ev P T K Y l Z).2.1) (nI (c + (S_de ev P T K Y l Z).2.2.1)) h' ∧ R_c h' P T K Y (S_de ev P T K Y l Z).2.2.2 ∧ B_fr E_dd h h' := by
  intro l
  induction l with
  | nil =>
    intro d k j c g Z h _ C W Cr hj hc hg
    obtain ⟨g, rfl⟩ : ∃ n', g = n' + 1 := ⟨g - 1, by omega⟩
    refine ⟨h, ?_, C.1, B_fr.refl _ _⟩
    show (if nI (j + 0) ≤ nI j then _ else _) = _
    rw [if_pos (nI_le (by omega) (by omega)), ← nI_0]
    rfl
  | cons a l ih =>
    intro d k j c g Z h hd C W Cr hj hc hg
    obtain ⟨g, rfl⟩ : ∃ n', g = n' + 2 := ⟨g - 2, by omega⟩
    rw [List.length_cons] at hj hg ⊢
    have hd2 : k ≤ m ∧ S_dl sg n m d k = (a :: l, none) := by
      rcases hd with e | e
      · cases e
      · exact e
    obtain ⟨hk, hdl⟩ := hd2
    -- the first act
    obtain ⟨hf, ea, hrest⟩ : (S_act1 sg m k).2.2 = none ∧ a = (S_act1 sg m k).1 ∧ ((((S_act1 sg m k).2.1 < m ∧ sg (S_act1 sg m k).2.1 = 59) ∧ ∃ d2, S_dl sg n m d2 ((S_act1 sg m k).2.1 + 1) = (l, none)) ∨ (¬ ((S_act1 sg m k).2.1 < m ∧ sg (S_act1 sg m k).2.1 = 59) ∧ l = [])) := by
      cases d with
      | zero => cases hdl
      | succ d =>
        unfold S_dl at hdl
        cases hf : (S_act1 sg m k).2.2 with
        | some f =>
          rw [hf] at hdl
          cases hdl
        | none =>
          rw [hf] at hdl
          dsimp only at hdl
          by_cases q : (S_act1 sg m k).2.1 < m ∧ sg (S_act1 sg m k).2.1 = 59
          · rw [if_pos q] at hdl
            have e1 := congrArg Prod.fst hdl
            have e2 := congrArg Prod.snd hdl
            dsimp only at e1 e2
            rw [List.cons.injEq] at e1
            exact ⟨rfl, e1.1.symm, Or.inl ⟨q, d, Prod.ext e1.2 e2⟩⟩
          · rw [if_neg q] at hdl
            have e1 := congrArg Prod.fst hdl
            dsimp only at e1
            rw [List.cons.injEq] at e1
            exact ⟨rfl, e1.1.symm, Or.inr ⟨q, e1.2.symm⟩⟩
    obtain ⟨s1, s2, s3⟩ := S_act1_ok hf
    rw [← ea] at s1
    obtain ⟨r, h1, a1, a2, a3, a4, a5⟩ := ac_readNext_s hm hn hk hs Cr
    obtain ⟨C2, A⟩ := a3 hf
    rw [hf, if_pos rfl] at a2
    rw [← ea] at A
    have e59 : px_c 59 = nI 59 := bc_59
    -- behind the mark
    obtain ⟨z5, h2, m1, k3, m2, m3, m4⟩ : ∃ z5 h2, tx_meet (nI 59) h1 = some (z5, h2) ∧ ∃ k3, C_rd h2 n m k3 sg ∧ (l = [] ∨ ∃ d2, k3 ≤ m ∧ S_dl sg n m d2 k3 = (l, none)) ∧ (h2 = h1 ∨ h2 = px_w h1 1 2 (nI k3)) := by
      rw [tx_meet_m C2 hm hn s3 hs (z := 59) (by omega)]
      rcases hrest with ⟨q, d2, e⟩ | ⟨q, e⟩
      · rw [if_pos q]
        exact ⟨_, _, rfl, _, C2.to _, Or.inr ⟨d2, by omega, e⟩, Or.inr rfl⟩
      · rw [if_neg q]
        exact ⟨_, _, rfl, _, C2, Or.inl e, Or.inl rfl⟩
    have F2 : B_fr E_act h h2 := by
      rcases m4 with e | e
      · rw [e]
        exact a5
      · rw [e]
        exact a5.w rfl
    have A2 : C_act h2 a := by
      rcases m4 with e | e
      · rw [e]
        exact A
      · unfold C_act at *
        rw [e, B_w_cell _ _ _ (show (43 : Nat) ≠ 1 by decide), B_w_cell _ _ _ (show (44 : Nat) ≠ 1 by decide)]
        exact A
    have Ch2 : C_h h2 P T K Y Z ev := C.dd (F2.mono E_act_dd) (C.1.act F2)
    obtain ⟨z, h3, u1, u2, u3⟩ := d_one s1 Ch2 W A2
    have hkind := s1.1
    have eis : ∀ hh : pH, hh 43 2 = nI a.1 → ac_isCrossing hh = some (if a.1 = 99 then nI 1 else 0, hh) := fun hh e => by
      unfold ac_isCrossing ac_isCrossing_14
      rw [e, bc_99, bc_1, bc_0, B_bz1, B_bz0]
      by_cases q : a.1 = 99
      · rw [if_pos (by rw [q]), if_pos q]
      · rw [if_neg (fun w => q ((nI_eq (by omega) (by omega)).mp w)), if_neg q]
    have hz : wu_day_57 (g + 2) (nI (j + (l.length + 1))) (nI j) 0 (nI c) (nI j) h = wu_day_116 (wu_day_57 (g + 1)) (nI (j + (l.length + 1))) (nI j) 0 (nI c) (nI j) z h3 := by
      show (if nI (j + (l.length + 1)) ≤ nI j then _ else if (0 : Int32) = 0 then _ else _) = _
      rw [if_neg (nI_ge (by omega) (by omega)), if_pos rfl, a1, B_bind, e59, m1, B_bind, a2, if_neg (show ¬ nI 1 = 0 by decide), eis h2 A2.1, B_bind]
      by_cases q : a.1 = 99
      · rw [if_pos q, if_neg (show ¬ nI 1 = 0 by decide)]
        rw [if_pos q] at u1
        rw [u1, B_bind]
      · rw [if_neg q, if_pos rfl]
        rw [if_neg q] at u1
        rw [u1, B_bind]
    have F3 : B_fr E_dd h h3 := (F2.mono E_act_dd).trans (u2.mono E_dc_dd)
    rw [hz]
    unfold S_de
    rcases u3 with ⟨v1, v2, v3⟩ | ⟨Z2, b, v1, v2, v3, v4⟩
    · rw [v1]
      dsimp only
      refine ⟨h3, ?_, v3, F3⟩
      unfold wu_day_116 wu_day_156 wu_day_158
      rw [if_pos v2, bc_1, nI_add]
      show (if nI (j + (l.length + 1)) ≤ nI (j + 1) then _ else if nI 1 = 0 then _ else _) = _
      rw [if_neg (show ¬ nI 1 = 0 by decide), Nat.add_zero, Nat.add_zero]
      split <;> rfl
    · rw [v1]
      dsimp only
      have hb1 := (S_do_W s1 W v1).2.2
      have W2 := (S_do_W s1 W v1).1
      have e43 : h3 43 2 = nI a.1 := by rw [u2 43 2 rfl, A2.1]
      have hstep : wu_day_116 (wu_day_57 (g + 1)) (nI (j + (l.length + 1))) (nI j) 0 (nI c) (nI j) z h3 = wu_day_57 (g + 1) (nI (j + 1 + l.length)) (nI (j + 1)) 0 (nI (c + b)) (nI (j + 1)) h3 := by
        have ej : j + (l.length + 1) = j + 1 + l.length := by omega
        unfold wu_day_116 wu_day_149 wu_day_150 wu_day_158
        rw [if_neg v2, eis h3 e43, B_bind, bc_1, bc_0, bc_m1, nI_add, Int32.add_zero, nI_add, ej]
        by_cases q : a.1 = 99
        · rw [if_pos q, if_neg (show ¬ nI 1 = 0 by decide)]
          have v4' := v4 q
          by_cases w : b = 0
          · rw [if_pos (by rw [v4']; exact w), w, Nat.add_zero]
            rfl
          · rw [if_neg (by rw [v4']; exact w), show b = 1 by omega]
        · have hb0 : b = 0 := by
            unfold S_do at v1
            rw [if_neg q] at v1
            repeat' split at v1
            all_goals (first | (cases v1; rfl) | cases v1)
          rw [if_neg q, if_pos rfl, hb0, Nat.add_zero]
          rfl
      rw [hstep]
      have C3 : C_h h3 P T K Y Z2 ev := Ch2.dd (u2.mono E_dc_dd) v3
      have Cr3 : C_rd h3 n m k3 sg := by
        obtain ⟨y1, y2, y3, y4⟩ := m2
        exact ⟨by rw [u2 1 1 rfl, y1], by rw [u2 1 2 rfl, y2], by rw [u2 1 3 rfl, y3], fun i hi => by rw [u2 2 i rfl]; exact y4 i hi⟩
      obtain ⟨d2, hd2⟩ : ∃ d2, l = [] ∨ (k3 ≤ m ∧ S_dl sg n m d2 k3 = (l, none)) := by
        rcases m3 with e | ⟨d2, e⟩
        · exact ⟨0, Or.inl e⟩
        · exact ⟨d2, Or.inr e⟩
      obtain ⟨h', x1, x2, x3⟩ := ih d2 k3 (j + 1) (c + b) (g + 1) Z2 h3 hd2 C3 W2 Cr3 (by omega) (by omega) (by omega)
      refine ⟨h', ?_, x2, F3.trans x3⟩
      rw [x1]
      congr 2
      · omega
      · omega
/-! doing: the other side -/
theorem mo_day_123_s : ∀ (l : List dA) (j c g : Nat) (Z : pH) (h : pH), (∀ a, a ∈ l → d_ok a) → R_m h P T K Y Z → E_m (h 51 26) (h 63) ev → R_w P T K Y Z → (∀ i, i < l.length → M_act h (11 * (j + i)) (l.getD i (0, 0, 0, 0, []))) → h 51 39 = nI c → j + l.length ≤ 60 → l.length < g → ∃ h', mo_day_123 g (nI (j + l.length)) (nI j) h = mo_day_145 (nI (j + l.length)) (nI (j + (S_de ev P T K Y l Z).1)) h' ∧ R_m h' P T K Y (S_de ev P T K Y l Z).2.2.2 ∧ h' 51 39 = nI (c + (S_de ev P T K Y l Z).2.2.1) ∧ B_fr E_dm h h' := by
  intro l
  induction l with
  | nil =>
    intro j c g Z h _ M E W A e39 hj hg
    obtain ⟨g, rfl⟩ : ∃ n', g = n' + 1 := ⟨g - 1, by omega⟩
    refine ⟨h, ?_, M, e39, B_fr.refl _ _⟩
    show (if nI (j + 0) ≤ nI j then _ else _) = _
    rw [if_pos (nI_le (by omega) (by omega))]
    rfl
  | cons a l ih =>
    intro j c g Z h ha M E W A e39 hj hg
    obtain ⟨g, rfl⟩ : ∃ n', g = n' + 1 := ⟨g - 1, by omega⟩
    have e11 : px_c 11 = nI 11 := bc_11
    rw [List.length_cons] at hj hg A ⊢
    have ha1 := ha a (List.mem_cons_self ..)
    obtain ⟨h1, F, u⟩ := d_two (q := j) ha1 (by omega) M E W (A 0 (by omega))
    have hz : mo_day_123 (g + 1) (nI (j + (l.length + 1))) (nI j) h = px_bind (mo_act (nI (11 * j)) h) fun z1 h2 => if z1 = 0 then mo_day_145 (nI (j + (l.length + 1))) (nI j) h2 else mo_day_123 g (nI (j + (l.length + 1))) (nI (j + 1)) h2 := by
      show (if nI (j + (l.length + 1)) ≤ nI j then _ else _) = _
      rw [if_neg (nI_ge (by omega) (by omega)), e11, pk_mul, bc_1, nI_add]
    rw [hz]
    unfold S_de
    rcases u with ⟨v1, v2, v3, v4⟩ | ⟨Z2, b, v1, v2, v3, v4⟩
    · rw [v1]
      dsimp only
      refine ⟨h1, ?_, v3, by rw [v4, e39]; rfl, F⟩
      rw [v2, B_bind, if_pos rfl]
      rfl
    · rw [v1]
      dsimp only
      have W2 := (S_do_W ha1 W v1).1
      obtain ⟨h', x1, x2, x3, x4⟩ := ih (j + 1) (c + b) g Z2 h1 (fun a h => ha a (List.mem_cons_of_mem _ h)) v3 (by rw [F 51 26 rfl, F.row 63 (fun _ => rfl)]; exact E) W2 (fun i hi => by
        have := A (i + 1) (by omega)
        unfold M_act at *
        rw [F.row 69 (fun _ => rfl), show j + 1 + i = j + (i + 1) by omega]
        exact this) (by rw [v4, e39, nI_add]) (by omega) (by omega)
      refine ⟨h', ?_, x2, ?_, F.trans x4⟩
      · rw [v2, B_bind, if_neg (show ¬ nI 1 = 0 by decide), show j + (l.length + 1) = j + 1 + l.length by omega, x1]
        congr 2
        omega
      · rw [x3]
        congr 1
        omega
end DLOOP
