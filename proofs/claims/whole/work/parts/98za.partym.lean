/-! Layer B: party: the reference, the call -/
def E_pp : Nat → Nat → Bool := fun a k => match a with
  | 51 => Nat.beq k 56
  | 75 => true
  | 76 => true
  | _ => false
def E_pt : Nat → Nat → Bool := fun a k => match a with
  | 77 => true
  | a => E_z a k
theorem E_pt_sd : ∀ a k, E_pt a k = true → B_sd a k = true := fun a k e => by
  unfold E_pt at e
  split at e
  · rfl
  · exact E_z_sd a k e
theorem E_z_pt : ∀ a k, E_z a k = true → E_pt a k = true := fun a k e => by
  unfold E_pt
  split
  · rfl
  · exact e
theorem E_pp_sd : ∀ a k, E_pp a k = true → B_sd a k = true := fun a k e => by
  unfold E_pp at e
  split at e
  · have := Nat.eq_of_beq_eq_true e
    subst this
    rfl
  · rfl
  · rfl
  · cases e
theorem nz_0 : px_nz 0 = 0 := rfl
theorem pk_pow : ∀ P, P < 7 → nI 1 <<< (nI P &&& 31) = nI (2 ^ P) := by decide +kernel
section PARTYM
variable {i : Nat} {h : pH} {P T K Y D f n X : Nat} {S : pH} {ev : pE} {pr : Nat → Nat → Bool}
/-- where the boats' search stands -/
def Y_R (pr : Nat → Nat → Bool) (h : pH) (P : Nat) (x k B : Nat) (m : Nat → Int32) (h' : pH) : Prop := (if Y_V pr x < 7 ∧ k + Y_V pr x < B then h' 51 56 = nI (k + Y_V pr x) ∧ ∀ c, c < P → h' 76 c = Y_S pr 64 x m c else h' 51 56 = nI B ∧ h' 76 = h 76) ∧ (∀ c, c < 6 → x.testBit c = false → h' 75 c = h 75 c) ∧ B_fr E_pp h h'
theorem mo_goParty_s (hP : P ≤ 6) : ∀ (g x k B : Nat) (x3 : Int32) (h : pH), x < 2 ^ P → (x ≠ 0 → 6 - Y_f x ≤ g) → k + g ≤ 20 → B < 2 ^ 30 → h 51 4 = nI P → h 51 56 = nI B → (∀ a b, a ≤ b → b < P → h 77 (6 * a + b) = B_01 (pr a b)) → ∃ h', mo_goParty (mo_goPartyG g) (nI x) (nI k) x3 h = some (0, h') ∧ Y_R pr h P x k B (h 75) h' := by
  intro g
  induction g with
  | zero =>
    intro x k B x3 h hx hg hk hB e4 e56 e77
    have hpow := Nat.pow_le_pow_right (show 0 < 2 by omega) hP
    have x64 : x < 64 := by omega
    have x0 : x = 0 := by
      by_cases h0 : x = 0
      · exact h0
      · have := (Y_f_in x x64 h0).1
        have := hg h0
        omega
    subst x0
    have H : ∀ (j c n : Nat) (g : pH), c + j = P → j < n → (∀ i, i < c → g 76 i = h 75 i) → g 75 = h 75 → g 51 56 = nI k → g 51 4 = nI P → B_fr E_pp h g → ∃ h', mo_goParty_21 (mo_goPartyG 0) n (nI c) g = some (0, h') ∧ (∀ i, i < P → h' 76 i = h 75 i) ∧ h' 75 = h 75 ∧ h' 51 56 = nI k ∧ B_fr E_pp h h' := by
      intro j
      induction j with
      | zero =>
        intro c n g hc hn e1 e2 e3 e4 F
        obtain ⟨n, rfl⟩ : ∃ n', n = n' + 1 := ⟨n - 1, by omega⟩
        refine ⟨g, ?_, fun i hi => e1 i (by omega), e2, e3, F⟩
        show (if g 51 4 ≤ nI c then _ else _) = _
        rw [e4, if_pos (nI_le (by omega) (by omega))]
      | succ j ih =>
        intro c n g hc hn e1 e2 e3 e4 F
        obtain ⟨n, rfl⟩ : ∃ n', n = n' + 1 := ⟨n - 1, by omega⟩
        obtain ⟨h', y⟩ := ih (c + 1) n (px_w g 76 c (h 75 c)) (by omega) (by omega) (fun i hi => by
          rw [B_w_at]
          by_cases w : i = c
          · rw [if_pos w, w]
          · rw [if_neg w]
            exact e1 i (by omega)) (by rw [B_w_cell _ _ _ (show (75 : Nat) ≠ 76 by decide)]; exact e2) (by rw [B_w_cell _ _ _ (show (51 : Nat) ≠ 76 by decide)]; exact e3) (by rw [B_w_cell _ _ _ (show (51 : Nat) ≠ 76 by decide)]; exact e4) (F.w rfl)
        refine ⟨h', ?_, y.2⟩
        rw [← y.1]
        show (if g 51 4 ≤ nI c then _ else _) = _
        rw [e4, if_neg (nI_ge (by omega) (by omega)), po_75 (by omega), B_ift, po_76 (by omega), B_ift, nI_clamp (by omega), e2, bc_1, nI_add]
    unfold mo_goParty Y_R
    rw [e56, Y_V_0]
    by_cases c : k < B
    · obtain ⟨h', y1, y2, y3, y4, y5⟩ := H P 0 px_F (px_w h 51 56 (nI k)) (by omega) (px_F_lt (by omega)) (fun i hi => by omega) (B_w_cell _ _ _ (by decide)) (B_w_same _ _ _ _) (by rw [B_w_at, if_neg (by decide)]; exact e4) ((B_fr.refl _ _).w rfl)
      rw [if_pos (by rw [bn_lt (by omega) (by omega)]; exact c), if_pos nI_0, bc_0]
      rw [nI_0] at y1
      refine ⟨h', y1, ?_, fun c _ _ => by rw [y3], y5⟩
      rw [if_pos ⟨by omega, by omega⟩]
      refine ⟨y4, fun c hc => ?_⟩
      rw [y2 c hc]
      unfold Y_S
      rw [if_pos rfl]
    · rw [if_neg (fun w => by rw [bn_lt (by omega) (by omega)] at w; exact c w)]
      refine ⟨h, rfl, ?_, fun _ _ _ => rfl, B_fr.refl _ _⟩
      rw [if_neg (fun w => by omega)]
      exact ⟨e56, rfl⟩
  | succ g ihg =>
    intro x k B x3 h hx hg hk hB e4 e56 e77
    have hpow := Nat.pow_le_pow_right (show 0 < 2 by omega) hP
    have x64 : x < 64 := by omega
    have hxP : ∀ c, P ≤ c → x.testBit c = false := fun c hc => Nat.testBit_lt_two_pow (Nat.lt_of_lt_of_le hx (Nat.pow_le_pow_right (by omega) hc))
    by_cases x0 : x = 0
    · subst x0
      have H : ∀ (j c n : Nat) (g' : pH), c + j = P → j < n → (∀ i, i < c → g' 76 i = h 75 i) → g' 75 = h 75 → g' 51 56 = nI k → g' 51 4 = nI P → B_fr E_pp h g' → ∃ h', mo_goParty_21 (mo_goPartyG (g + 1)) n (nI c) g' = some (0, h') ∧ (∀ i, i < P → h' 76 i = h 75 i) ∧ h' 75 = h 75 ∧ h' 51 56 = nI k ∧ B_fr E_pp h h' := by
        intro j
        induction j with
        | zero =>
          intro c n g hc hn e1 e2 e3 e4 F
          obtain ⟨n, rfl⟩ : ∃ n', n = n' + 1 := ⟨n - 1, by omega⟩
          refine ⟨g, ?_, fun i hi => e1 i (by omega), e2, e3, F⟩
          show (if g 51 4 ≤ nI c then _ else _) = _
          rw [e4, if_pos (nI_le (by omega) (by omega))]
        | succ j ih =>
          intro c n g hc hn e1 e2 e3 e4 F
          obtain ⟨n, rfl⟩ : ∃ n', n = n' + 1 := ⟨n - 1, by omega⟩
          obtain ⟨h', y⟩ := ih (c + 1) n (px_w g 76 c (h 75 c)) (by omega) (by omega) (fun i hi => by
            rw [B_w_at]
            by_cases w : i = c
            · rw [if_pos w, w]
            · rw [if_neg w]
              exact e1 i (by omega)) (by rw [B_w_cell _ _ _ (show (75 : Nat) ≠ 76 by decide)]; exact e2) (by rw [B_w_cell _ _ _ (show (51 : Nat) ≠ 76 by decide)]; exact e3) (by rw [B_w_cell _ _ _ (show (51 : Nat) ≠ 76 by decide)]; exact e4) (F.w rfl)
          refine ⟨h', ?_, y.2⟩
          rw [← y.1]
          show (if g 51 4 ≤ nI c then _ else _) = _
          rw [e4, if_neg (nI_ge (by omega) (by omega)), po_75 (by omega), B_ift, po_76 (by omega), B_ift, nI_clamp (by omega), e2, bc_1, nI_add]
      unfold mo_goParty Y_R
      rw [e56, Y_V_0]
      by_cases c : k < B
      · obtain ⟨h', y1, y2, y3, y4, y5⟩ := H P 0 px_F (px_w h 51 56 (nI k)) (by omega) (px_F_lt (by omega)) (fun i hi => by omega) (B_w_cell _ _ _ (by decide)) (B_w_same _ _ _ _) (by rw [B_w_at, if_neg (by decide)]; exact e4) ((B_fr.refl _ _).w rfl)
        rw [if_pos (by rw [bn_lt (by omega) (by omega)]; exact c), if_pos nI_0, bc_0]
        rw [nI_0] at y1
        refine ⟨h', y1, ?_, fun c _ _ => by rw [y3], y5⟩
        rw [if_pos ⟨by omega, by omega⟩]
        refine ⟨y4, fun c hc => ?_⟩
        rw [y2 c hc]
        unfold Y_S
        rw [if_pos rfl]
      · rw [if_neg (fun w => by rw [bn_lt (by omega) (by omega)] at w; exact c w)]
        refine ⟨h, rfl, ?_, fun _ _ _ => rfl, B_fr.refl _ _⟩
        rw [if_neg (fun w => by omega)]
        exact ⟨e56, rfl⟩
    · obtain ⟨f1, f2⟩ := Y_f_in x x64 x0
      have hgx := hg x0
      have fP : Y_f x < P := by
        by_cases c : Y_f x < P
        · exact c
        · rw [hxP (Y_f x) (by omega)] at f2
          cases f2
      -- the state within the loop
      have H : ∀ (j n m : Nat) (h1 : pH), Y_f x + n + j = P → j < m → (if (Y_a pr x n).1 < 7 ∧ k + (Y_a pr x n).1 < B then h1 51 56 = nI (k + (Y_a pr x n).1) ∧ ∀ c, c < P → h1 76 c = Y_S pr 64 (Y_w x (Y_f x) (Y_a pr x n).2) (Y_up (h 75) (Y_f x) (Y_a pr x n).2) c else h1 51 56 = nI B ∧ h1 76 = h 76) → (∀ c, c < 6 → x.testBit c = false → h1 75 c = h 75 c) → B_fr E_pp h h1 → ∃ h', mo_goParty_61 (mo_goPartyG (g + 1)) m (nI x) (nI k) x3 (nI (Y_f x)) (nI (Y_f x + n)) h1 = some (0, h') ∧ (if (Y_a pr x (P - Y_f x)).1 < 7 ∧ k + (Y_a pr x (P - Y_f x)).1 < B then h' 51 56 = nI (k + (Y_a pr x (P - Y_f x)).1) ∧ ∀ c, c < P → h' 76 c = Y_S pr 64 (Y_w x (Y_f x) (Y_a pr x (P - Y_f x)).2) (Y_up (h 75) (Y_f x) (Y_a pr x (P - Y_f x)).2) c else h' 51 56 = nI B ∧ h' 76 = h 76) ∧ (∀ c, c < 6 → x.testBit c = false → h' 75 c = h 75 c) ∧ B_fr E_pp h h' := by
        intro j
        induction j with
        | zero =>
          intro n m h1 hn hm st c75 F
          obtain ⟨m, rfl⟩ : ∃ n', m = n' + 1 := ⟨m - 1, by omega⟩
          have en : P - Y_f x = n := by omega
          rw [en]
          refine ⟨h1, ?_, st, c75, F⟩
          show (if h1 51 4 ≤ nI (Y_f x + n) then _ else _) = _
          rw [F 51 4 rfl, e4, if_pos (nI_le (by omega) (by omega))]
        | succ j ih =>
          intro n m h1 hn hm st c75 F
          obtain ⟨m, rfl⟩ : ∃ n', m = n' + 1 := ⟨m - 1, by omega⟩
          have e137 : ∀ g', mo_goParty_137 (mo_goPartyG (g + 1)) (mo_goParty_61 (mo_goPartyG (g + 1)) m) (nI x) (nI k) x3 (nI (Y_f x)) (nI (Y_f x + n)) g' = mo_goParty_61 (mo_goPartyG (g + 1)) m (nI x) (nI k) x3 (nI (Y_f x)) (nI (Y_f x + (n + 1))) g' := fun g' => by
            unfold mo_goParty_137
            rw [bc_1, nI_add]
            rfl
          have hb6 : Y_f x + n < 6 := by omega
          have e77' : h1 77 (6 * Y_f x + (Y_f x + n)) = B_01 (pr (Y_f x) (Y_f x + n)) := by
            rw [F 77 _ rfl]
            exact e77 _ _ (by omega) (by omega)
          have hskip : ¬ (x.testBit (Y_f x + n) = true ∧ pr (Y_f x) (Y_f x + n) = true) → Y_a pr x (n + 1) = Y_a pr x n := fun w => by
            rw [Y_a_snoc]
            exact if_neg (fun q => w q.1)
          have hstep : mo_goParty_61 (mo_goPartyG (g + 1)) (m + 1) (nI x) (nI k) x3 (nI (Y_f x)) (nI (Y_f x + n)) h1 = if B_01 (x.testBit (Y_f x + n)) = 0 then mo_goParty_61 (mo_goPartyG (g + 1)) m (nI x) (nI k) x3 (nI (Y_f x)) (nI (Y_f x + (n + 1))) h1 else if B_01 (pr (Y_f x) (Y_f x + n)) = 0 then mo_goParty_61 (mo_goPartyG (g + 1)) m (nI x) (nI k) x3 (nI (Y_f x)) (nI (Y_f x + (n + 1))) h1 else mo_goParty_116 (mo_goPartyG (g + 1)) (mo_goParty_61 (mo_goPartyG (g + 1)) m) (nI x) (nI k) x3 (nI (Y_f x)) (nI (Y_f x + n)) (px_w (px_w h1 75 (Y_f x) (nI (Y_f x + n))) 75 (Y_f x + n) (nI (Y_f x))) := by
            show (if h1 51 4 ≤ nI (Y_f x + n) then _ else _) = _
            rw [F 51 4 rfl, e4, if_neg (nI_ge (by omega) (by omega)), mo_has_n x64 (by omega), B_bind, e137, bc_6, pk_mul, nI_add, po_77 (by omega), Bool.or_true, B_ift, nI_clamp (show 6 * Y_f x + (Y_f x + n) < 2 ^ 31 by omega), e77', po_75 (by omega), B_ift, nI_clamp (show Y_f x < 2 ^ 31 by omega), po_75 (by omega)]
            dsimp only
            rw [B_ift, nI_clamp (by omega)]
          rw [hstep]
          cases hb : x.testBit (Y_f x + n) with
          | false =>
            rw [if_pos (show B_01 false = 0 from rfl)]
            have e := hskip (fun w => by rw [hb] at w; cases w.1)
            exact ih (n + 1) m h1 (by omega) (by omega) (by rw [e]; exact st) c75 F
          | true =>
            rw [if_neg (show ¬ B_01 true = 0 by decide)]
            cases hp : pr (Y_f x) (Y_f x + n) with
            | false =>
              rw [if_pos (show B_01 false = 0 from rfl)]
              have e := hskip (fun w => by rw [hp] at w; cases w.2)
              exact ih (n + 1) m h1 (by omega) (by omega) (by rw [e]; exact st) c75 F
            | true =>
              rw [if_neg (show ¬ B_01 true = 0 by decide)]
              generalize hy : Y_w x (Y_f x) (Y_f x + n) = y
              have hyx := Y_w_lt x x64 (Y_f x) f1 (Y_f x + n) hb6 f2
              rw [hy] at hyx
              have hyb : ∀ c, c < 6 → y.testBit c = (x.testBit c && !decide (c = Y_f x) && !decide (c = Y_f x + n)) := fun c hc => by
                rw [← hy]
                exact Y_w_bit x x64 (Y_f x) f1 (Y_f x + n) hb6 c hc
              have hyf : y ≠ 0 → Y_f x < Y_f y := fun w => by
                obtain ⟨g1, g2⟩ := Y_f_in y (by omega) w
                rw [hyb _ g1] at g2
                simp only [Bool.and_eq_true, Bool.not_eq_true', decide_eq_false_iff_not] at g2
                by_cases c : Y_f y < Y_f x
                · have := Y_f_lo x x64 _ g1 c
                  rw [this] at g2
                  exact absurd g2.1.1 (by decide)
                · omega
              have hV := Y_V_le7 (pr := pr) (show y < 64 by omega)
              have hV6 : Y_V pr y ≠ 6 := fun w => by
                rcases Y_V_6 (pr := pr) (show y < 64 by omega) with q | q
                · exact q w
                · by_cases y0 : y = 0
                  · rw [y0, Y_V_0] at w
                    cases w
                  · have := hyf y0
                    omega
              have hm7 := Y_a_le7 (pr := pr) x n
              -- B'
              generalize hB2 : (if (Y_a pr x n).1 < 7 ∧ k + (Y_a pr x n).1 < B then k + (Y_a pr x n).1 else B) = B2
              have e56' : h1 51 56 = nI B2 := by
                rw [← hB2]
                by_cases c : (Y_a pr x n).1 < 7 ∧ k + (Y_a pr x n).1 < B
                · rw [if_pos c] at st ⊢
                  exact st.1
                · rw [if_neg c] at st ⊢
                  exact st.1
              have hB2le : B2 ≤ B := by
                rw [← hB2]
                split <;> omega
              generalize hg1 : px_w (px_w h1 75 (Y_f x) (nI (Y_f x + n))) 75 (Y_f x + n) (nI (Y_f x)) = g1
              have cg : ∀ a c, a ≠ 75 → g1 a c = h1 a c := fun a c ha => by
                rw [← hg1, B_w_cell _ _ _ ha, B_w_cell _ _ _ ha]
              have e75 : g1 75 = Y_up (h1 75) (Y_f x) (Y_f x + n) := by
                rw [← hg1]
                funext c
                rw [B_w_at, B_w_at]
                rfl
              have Fg : B_fr E_pp h g1 := by
                rw [← hg1]
                exact (F.w rfl).w rfl
              obtain ⟨h2, y1, y2, y3, y4⟩ := ihg y (k + 1) B2 x3 g1 (by omega) (fun w => by have := hyf w; omega) (by omega) (by omega) (by rw [Fg 51 4 rfl, e4]) (by rw [cg 51 56 (by decide), e56']) (fun a b hab hb => by rw [Fg 77 _ rfl]; exact e77 a b hab hb)
              have e262 : mo_goPartyG (g + 1) 262 [.inr (.inl 51), .inl (nI y), .inl (nI (k + 1)), .inl x3] g1 = mo_goParty (mo_goPartyG g) (nI y) (nI (k + 1)) x3 g1 := rfl
              unfold mo_goParty_116
              rw [bc_1, bc_m1, Y_w_int x x64 (Y_f x) f1 (Y_f x + n) hb6, hy, nI_add, e262, y1, B_bind, e137]
              have c75' : ∀ c, c < 6 → x.testBit c = false → h2 75 c = h 75 c := fun c hc hxc => by
                rw [y3 c hc (by rw [hyb c hc, hxc]; rfl), e75]
                unfold Y_up
                rw [if_neg (fun w => by rw [w, hb] at hxc; cases hxc), if_neg (fun w => by rw [w, f2] at hxc; cases hxc)]
                exact c75 c hc hxc
              have eS : Y_V pr y < 7 → ∀ c, c < P → Y_S pr 64 y (g1 75) c = Y_S pr 64 y (Y_up (h 75) (Y_f x) (Y_f x + n)) c := fun w c hc => by
                refine Y_S_ext 64 y _ _ (by omega) (by omega) w c (by omega) ?_
                rw [e75]
                by_cases q : y.testBit c = true
                · exact Or.inl q
                · right
                  unfold Y_up
                  by_cases q1 : c = Y_f x + n
                  · rw [if_pos q1, if_pos q1]
                  · rw [if_neg q1, if_neg q1]
                    by_cases q2 : c = Y_f x
                    · rw [if_pos q2, if_pos q2]
                    · rw [if_neg q2, if_neg q2]
                      refine c75 c (by omega) ?_
                      rw [hyb c (by omega), decide_eq_false q1, decide_eq_false q2] at q
                      cases w2 : x.testBit c with
                      | false => rfl
                      | true => rw [w2] at q; exact absurd rfl q
              refine ih (n + 1) m h2 (by omega) (by omega) ?_ c75' (Fg.trans y4)
              by_cases u : 1 + Y_V pr y < (Y_a pr x n).1
              · have ea : Y_a pr x (n + 1) = (1 + Y_V pr y, Y_f x + n) := by
                  rw [Y_a_snoc]
                  unfold Y_g
                  rw [hy, if_pos ⟨⟨hb, hp⟩, u⟩]
                rw [ea]
                dsimp only
                by_cases v : k + 1 + Y_V pr y < B
                · have vB : Y_V pr y < 7 ∧ k + 1 + Y_V pr y < B2 := by
                    refine ⟨by omega, ?_⟩
                    rw [← hB2]
                    split <;> omega
                  rw [if_pos vB] at y2
                  rw [if_pos ⟨by omega, by omega⟩, hy]
                  refine ⟨by rw [y2.1]; congr 1; omega, fun c hc => ?_⟩
                  rw [y2.2 c hc]
                  exact eS vB.1 c hc
                · have vB : ¬ (Y_V pr y < 7 ∧ k + 1 + Y_V pr y < B2) := by omega
                  rw [if_neg vB] at y2
                  have hnot : ¬ ((Y_a pr x n).1 < 7 ∧ k + (Y_a pr x n).1 < B) := by omega
                  rw [if_neg hnot] at st hB2
                  rw [if_neg (by omega)]
                  refine ⟨by rw [y2.1, hB2], ?_⟩
                  rw [y2.2]
                  funext c
                  rw [cg 76 c (by decide), st.2]
              · have ea : Y_a pr x (n + 1) = Y_a pr x n := by
                  rw [Y_a_snoc]
                  unfold Y_g
                  rw [hy, if_neg (fun w => u w.2)]
                rw [ea]
                have vB : ¬ (Y_V pr y < 7 ∧ k + 1 + Y_V pr y < B2) := by
                  rw [← hB2]
                  split <;> omega
                rw [if_neg vB] at y2
                have e76 : h2 76 = h1 76 := by
                  rw [y2.2]
                  funext c
                  exact cg 76 c (by decide)
                rw [y2.1, e76, ← e56']
                exact st
      have hz : mo_goParty (mo_goPartyG (g + 1)) (nI x) (nI k) x3 h = if nI k < nI B then mo_goParty_61 (mo_goPartyG (g + 1)) px_F (nI x) (nI k) x3 (nI (Y_f x)) (nI (Y_f x)) h else some (0, h) := by
        unfold mo_goParty
        rw [e56, if_neg (show ¬ nI x = 0 from fun w => by rw [bn_eq0 (by omega)] at w; exact x0 w), jn_tz, B_bind, Y_tz x x64 x0]
      rw [hz]
      obtain ⟨v1, v2⟩ := Y_V_eq (pr := pr) x64 x0
      have hup : ∀ j, P - Y_f x + j ≤ 6 - Y_f x → Y_a pr x (P - Y_f x + j) = Y_a pr x (P - Y_f x) := by
        intro j
        induction j with
        | zero => intro _; rfl
        | succ j ij =>
          intro hj
          rw [← Nat.add_assoc, Y_a_snoc]
          unfold Y_g
          rw [if_neg (fun w => by rw [hxP _ (by omega)] at w; cases w.1.1)]
          exact ij (by omega)
      have hlast := hup (6 - P) (by omega)
      rw [show P - Y_f x + (6 - P) = 6 - Y_f x by omega] at hlast
      by_cases c : k < B
      · rw [if_pos (by rw [bn_lt (by omega) (by omega)]; exact c)]
        obtain ⟨h', y1, y2, y3, y4⟩ := H (P - Y_f x) 0 px_F h (by omega) (px_F_lt (by omega)) (by
          rw [if_neg (fun w => by change 7 < 7 ∧ _ at w; omega)]
          exact ⟨e56, rfl⟩) (fun _ _ _ => rfl) (B_fr.refl _ _)
        refine ⟨h', y1, ?_, y3, y4⟩
        rw [← hlast] at y2
        rw [v1]
        by_cases q : (Y_a pr x (6 - Y_f x)).1 < 7 ∧ k + (Y_a pr x (6 - Y_f x)).1 < B
        · rw [if_pos q] at y2 ⊢
          refine ⟨y2.1, fun c hc => ?_⟩
          rw [Y_S_step x64 x0 (by omega) (by rw [v1]; exact q.1), v2]
          exact y2.2 c hc
        · rw [if_neg q] at y2 ⊢
          exact y2
      · rw [if_neg (fun w => by rw [bn_lt (by omega) (by omega)] at w; exact c w)]
        refine ⟨h, rfl, ?_, fun _ _ _ => rfl, B_fr.refl _ _⟩
        rw [if_neg (fun w => by omega)]
        exact ⟨e56, rfl⟩
/-- the pairs tried, as the reference does it -/
theorem mo_party_65_s (hX : X < 64) (hf : f < 2) (W : R_w P T K Y S) (r54 : Int32 → Int32 → Int32 → pH → pR) {a : Nat} (ha : a < P) : ∀ (j b m : Nat) (g : pH), b + j = P → a ≤ b → j < m → M_h g P T K Y S ev → R_a g 52 P T S → (∀ c d, c ≤ d → d < P → (c < a ∨ (c = a ∧ d < b)) → g 77 (6 * c + d) = B_01 (Y_pr ev S T (S_dist S Y f (1 - f)) X c d)) → ∃ h', mo_party_65 r54 m (nI X) (nI f) (nI a) (nI b) g = r54 (nI X) (nI f) (nI (a + 1)) h' ∧ (∀ c d, c ≤ d → d < P → c < a + 1 → h' 77 (6 * c + d) = B_01 (Y_pr ev S T (S_dist S Y f (1 - f)) X c d)) ∧ B_fr E_pt g h' := by
  have h6 := W.1
  intro j
  induction j with
  | zero =>
    intro b m g hb hab hm M A e
    obtain ⟨m, rfl⟩ : ∃ n', m = n' + 1 := ⟨m - 1, by omega⟩
    refine ⟨g, ?_, fun c d hcd hd hc => e c d hcd hd (by omega), B_fr.refl _ _⟩
    show (if g 51 4 ≤ nI b then _ else _) = _
    rw [M.1.1, if_pos (nI_le (by omega) (by omega)), bc_1, nI_add]
  | succ j ih =>
    intro b m g hb hab hm M A e
    obtain ⟨m, rfl⟩ : ∃ n', m = n' + 1 := ⟨m - 1, by omega⟩
    have e131 : ∀ s0 v (g1 : pH), px_nz s0 = v → mo_party_131 r54 (mo_party_65 r54 m) (nI X) (nI f) (nI a) (nI b) s0 (nI 6 * nI a + nI b) g1 = mo_party_65 r54 m (nI X) (nI f) (nI a) (nI (b + 1)) (px_w g1 77 (6 * a + b) v) := fun s0 v g1 hv => by
      unfold mo_party_131
      rw [pk_mul, nI_add, po_77 (by omega), B_ift, nI_clamp (by omega), hv, bc_1, nI_add]
    have fin : ∀ (v : Bool) (g1 : pH), B_fr E_z g g1 → Y_pr ev S T (S_dist S Y f (1 - f)) X a b = v → ∃ h', mo_party_65 r54 m (nI X) (nI f) (nI a) (nI (b + 1)) (px_w g1 77 (6 * a + b) (B_01 v)) = r54 (nI X) (nI f) (nI (a + 1)) h' ∧ (∀ c d, c ≤ d → d < P → c < a + 1 → h' 77 (6 * c + d) = B_01 (Y_pr ev S T (S_dist S Y f (1 - f)) X c d)) ∧ B_fr E_pt g h' := fun v g1 F1 hv => by
      have F2 : B_fr E_pt g (px_w g1 77 (6 * a + b) (B_01 v)) := (F1.mono E_z_pt).w rfl
      have M2 : M_h (px_w g1 77 (6 * a + b) (B_01 v)) P T K Y S ev := by
        obtain ⟨R, E⟩ := M
        refine ⟨?_, ?_⟩
        · unfold R_k at *
          rw [F2 51 4 rfl, F2 51 6 rfl, F2 51 2 rfl, F2 51 1 rfl, F2.row 54 (fun _ => rfl), F2.row 55 (fun _ => rfl), F2.row 56 (fun _ => rfl), F2.row 57 (fun _ => rfl), F2.row 53 (fun _ => rfl)]
          exact R
        · rw [F2 51 26 rfl, F2.row 63 (fun _ => rfl)]
          exact E
      obtain ⟨h', y1, y2, y3⟩ := ih (b + 1) m _ (by omega) (by omega) (by omega) M2 (A.cell (F2.row 52 (fun _ => rfl))) (fun c d hcd hd hc => by
        rw [B_w_at]
        by_cases w : 6 * c + d = 6 * a + b
        · have : c = a ∧ d = b := by omega
          rw [if_pos w, this.1, this.2, hv]
        · rw [if_neg w, F1 77 _ rfl]
          exact e c d hcd hd (by omega))
      exact ⟨h', y1, y2, F2.trans y3⟩
    have e130 : ∀ g1, mo_party_130 r54 (mo_party_65 r54 m) (nI X) (nI f) (nI a) (nI b) (nI 6 * nI a + nI b) g1 = mo_party_65 r54 m (nI X) (nI f) (nI a) (nI (b + 1)) (px_w g1 77 (6 * a + b) 0) := fun g1 => by
      unfold mo_party_130
      rw [bc_0, e131 0 0 g1 nz_0]
    have hstep : mo_party_65 r54 (m + 1) (nI X) (nI f) (nI a) (nI b) g = if B_01 (X.testBit a) = 0 then mo_party_65 r54 m (nI X) (nI f) (nI a) (nI (b + 1)) (px_w g 77 (6 * a + b) 0) else if B_01 (X.testBit b) = 0 then mo_party_65 r54 m (nI X) (nI f) (nI a) (nI (b + 1)) (px_w g 77 (6 * a + b) 0) else px_bind (mo_leastRow 52 ((nI 1 <<< (nI a &&& 31)) ||| (nI 1 <<< (nI b &&& 31))) (nI f) (nI (1 - f)) (nI 3) g) fun z5 h6 => if z5 ≤ 0 then mo_party_65 r54 m (nI X) (nI f) (nI a) (nI (b + 1)) (px_w h6 77 (6 * a + b) 0) else mo_party_65 r54 m (nI X) (nI f) (nI a) (nI (b + 1)) (px_w h6 77 (6 * a + b) (nI 1)) := by
      show (if g 51 4 ≤ nI b then _ else _) = _
      rw [M.1.1, if_neg (nI_ge (by omega) (by omega)), mo_has_n hX (by omega), B_bind, bc_6, e130, mo_has_n hX (by omega), B_bind, e130, bc_1, bc_3, pk_sub (by omega)]
      simp only [e130, e131 (nI 1) (nI 1) _ rfl]
    rw [hstep]
    have f0 : ∀ v, Y_pr ev S T (S_dist S Y f (1 - f)) X a b = v → v = false → (B_01 v : Int32) = 0 := fun v _ h => by rw [h]; rfl
    cases ha' : X.testBit a with
    | false =>
      rw [if_pos (show B_01 false = 0 from rfl)]
      exact fin false g (B_fr.refl _ _) (by unfold Y_pr; rw [ha']; rfl)
    | true =>
      rw [if_neg (show ¬ B_01 true = 0 by decide)]
      cases hb' : X.testBit b with
      | false =>
        rw [if_pos (show B_01 false = 0 from rfl)]
        exact fin false g (B_fr.refl _ _) (by unfold Y_pr; rw [hb', Bool.and_false]; rfl)
      | true =>
        rw [if_neg (show ¬ B_01 true = 0 by decide)]
        obtain ⟨h5, y1, y2, -⟩ := mo_leastRow_s (ab := (nI 1 <<< (nI a &&& 31)) ||| (nI 1 <<< (nI b &&& 31))) (most := 3) (by omega) (Or.inl rfl : B_sl 52) (by decide) (show f < 2 + K by omega) (show 1 - f < 2 by omega) W M A
        have hlen : (nI (Z_sh ev S T (S_dist S Y f (1 - f)) ((nI 1 <<< (nI a &&& 31)) ||| (nI 1 <<< (nI b &&& 31))) 3).length ≤ 0) = (Z_sh ev S T (S_dist S Y f (1 - f)) ((nI 1 <<< (nI a &&& 31)) ||| (nI 1 <<< (nI b &&& 31))) 3 = []) := by
          have := Z_sh_len (ev := ev) (Z := S) (T := T) (D := S_dist S Y f (1 - f)) (ab := (nI 1 <<< (nI a &&& 31)) ||| (nI 1 <<< (nI b &&& 31))) (m := 3)
          rw [bn_le0 (by omega)]
          exact propext List.length_eq_zero_iff
        have hpr : Y_pr ev S T (S_dist S Y f (1 - f)) X a b = !decide (Z_sh ev S T (S_dist S Y f (1 - f)) ((nI 1 <<< (nI a &&& 31)) ||| (nI 1 <<< (nI b &&& 31))) 3 = []) := by
          unfold Y_pr
          rw [ha', hb']
          rfl
        rw [y1, B_bind]
        by_cases c : Z_sh ev S T (S_dist S Y f (1 - f)) ((nI 1 <<< (nI a &&& 31)) ||| (nI 1 <<< (nI b &&& 31))) 3 = []
        · rw [if_pos (by rw [hlen]; exact c)]
          exact fin false h5 y2 (by rw [hpr, decide_eq_true c]; rfl)
        · rw [if_neg (by rw [hlen]; exact c)]
          exact fin true h5 y2 (by rw [hpr, decide_eq_false c]; rfl)
theorem mo_party_54_s (hX : X < 64) (hf : f < 2) (W : R_w P T K Y S) : ∀ (j a m : Nat) (g : pH), a + j = P → j < m → M_h g P T K Y S ev → R_a g 52 P T S → (∀ c d, c ≤ d → d < P → c < a → g 77 (6 * c + d) = B_01 (Y_pr ev S T (S_dist S Y f (1 - f)) X c d)) → ∃ h', mo_party_54 m (nI X) (nI f) (nI a) g = mo_party_151 (nI X) (px_w h' 51 56 (nI 1000000)) ∧ (∀ c d, c ≤ d → d < P → h' 77 (6 * c + d) = B_01 (Y_pr ev S T (S_dist S Y f (1 - f)) X c d)) ∧ B_fr E_pt g h' := by
  have h6 := W.1
  intro j
  induction j with
  | zero =>
    intro a m g ha hm M A e
    obtain ⟨m, rfl⟩ : ∃ n', m = n' + 1 := ⟨m - 1, by omega⟩
    have ek : px_k 1000000 = nI 1000000 := px_k_eq _
    refine ⟨g, ?_, fun c d hcd hd => e c d hcd hd (by omega), B_fr.refl _ _⟩
    show (if g 51 4 ≤ nI a then _ else _) = _
    rw [M.1.1, if_pos (nI_le (by omega) (by omega)), ek]
  | succ j ih =>
    intro a m g ha hm M A e
    obtain ⟨m, rfl⟩ : ∃ n', m = n' + 1 := ⟨m - 1, by omega⟩
    obtain ⟨h1, x1, x2, x3⟩ := mo_party_65_s (ev := ev) hX hf W (mo_party_54 m) (show a < P by omega) (P - a) a px_F g (by omega) (Nat.le_refl _) (px_F_lt (by omega)) M A (fun c d hcd hd hc => e c d hcd hd (by omega))
    have M1 : M_h h1 P T K Y S ev := by
      obtain ⟨R, E⟩ := M
      refine ⟨?_, ?_⟩
      · unfold R_k at *
        rw [x3 51 4 rfl, x3 51 6 rfl, x3 51 2 rfl, x3 51 1 rfl, x3.row 54 (fun _ => rfl), x3.row 55 (fun _ => rfl), x3.row 56 (fun _ => rfl), x3.row 57 (fun _ => rfl), x3.row 53 (fun _ => rfl)]
        exact R
      · rw [x3 51 26 rfl, x3.row 63 (fun _ => rfl)]
        exact E
    obtain ⟨h', y1, y2, y3⟩ := ih (a + 1) m h1 (by omega) (by omega) M1 (A.cell (x3.row 52 (fun _ => rfl))) x2
    refine ⟨h', ?_, y2, x3.trans y3⟩
    show (if g 51 4 ≤ nI a then _ else _) = _
    rw [M.1.1, if_neg (nI_ge (by omega) (by omega)), x1, y1]
theorem mo_party_178_s {m0 : Nat → Int32} {V : Nat} (hP : P ≤ 6) (hX : X < 64) (e4 : h 51 4 = nI P) (e56 : h 51 56 = nI V) (e76 : ∀ c, c < P → h 76 c = m0 c) (R : B_rm h []) : ∃ h', mo_party_178 px_F (nI X) 0 h = some (nI V, h') ∧ B_rm h' (Y_l X m0 P) ∧ B_fr B_frm h h' := by
  have H : ∀ (j k n : Nat) (g : pH), k + j = P → j < n → B_fr B_frm h g → B_rm g (Y_l X m0 k) → ∃ h', mo_party_178 n (nI X) (nI k) g = some (nI V, h') ∧ B_rm h' (Y_l X m0 P) ∧ B_fr B_frm h h' := by
    intro j
    induction j with
    | zero =>
      intro k n g hk hn F R
      obtain ⟨n, rfl⟩ : ∃ n', n = n' + 1 := ⟨n - 1, by omega⟩
      have ek : k = P := by omega
      subst ek
      refine ⟨g, ?_, R, F⟩
      show (if g 51 4 ≤ nI k then _ else _) = _
      rw [F 51 4 rfl, e4, if_pos (nI_le (by omega) (by omega)), F 51 56 rfl, e56]
    | succ j ih =>
      intro k n g hk hn F R
      obtain ⟨n, rfl⟩ : ∃ n', n = n' + 1 := ⟨n - 1, by omega⟩
      have e204 : ∀ g', mo_party_204 (mo_party_178 n) (nI X) (nI k) g' = mo_party_178 n (nI X) (nI (k + 1)) g' := fun g' => by
        unfold mo_party_204
        rw [bc_1, nI_add]
      have ec : Y_l X m0 (k + 1) = Y_l X m0 k ++ (if X.testBit k = true then [m0 k] else []) := rfl
      have hlen := Y_l_len X m0 k
      cases hb : X.testBit k with
      | false =>
        rw [hb, if_neg (by decide), List.append_nil] at ec
        obtain ⟨h', x1, x2⟩ := ih (k + 1) n g (by omega) (by omega) F (by rw [ec]; exact R)
        refine ⟨h', ?_, x2⟩
        show (if g 51 4 ≤ nI k then _ else _) = _
        rw [F 51 4 rfl, e4, if_neg (nI_ge (by omega) (by omega)), mo_has_n hX (by omega), B_bind, hb, if_pos (show B_01 false = 0 from rfl), e204, x1]
      | true =>
        rw [hb, if_pos rfl] at ec
        obtain ⟨h1, a1, a2, a3⟩ := mo_tell_s (m0 k) R (by omega)
        obtain ⟨h', x1, x2⟩ := ih (k + 1) n h1 (by omega) (by omega) (F.trans a3) (by rw [ec]; exact a2)
        refine ⟨h', ?_, x2⟩
        show (if g 51 4 ≤ nI k then _ else _) = _
        rw [F 51 4 rfl, e4, if_neg (nI_ge (by omega) (by omega)), mo_has_n hX (by omega), B_bind, hb, if_neg (show ¬ B_01 true = 0 by decide), po_76 (by omega), B_ift, nI_clamp (by omega), F 76 k rfl, e76 k (by omega), a1, B_bind, e204, x1]
  have := H P 0 px_F h (by omega) (px_F_lt (by omega)) (B_fr.refl _ _) R
  rw [nI_0] at this
  exact this
/-- the reference, where the party can be asked of -/
theorem mo_party_54_all (hX : X < 2 ^ P) (h0 : X ≠ 0) (hf : f < 2) (W : R_w P T K Y S) (M : M_h h P T K Y S ev) (A : R_a h 52 P T S) : ∃ h' m, B_fr B_sd h h' ∧ (if Y_V (Y_pr ev S T (S_dist S Y f (1 - f)) X) X < 7 then mo_party_54 px_F (nI X) (nI f) 0 h = some (nI (Y_V (Y_pr ev S T (S_dist S Y f (1 - f)) X) X), h') ∧ B_rm h' (Y_l X (Y_S (Y_pr ev S T (S_dist S Y f (1 - f)) X) 64 X m) P) else mo_party_54 px_F (nI X) (nI f) 0 h = some (-2, h') ∧ h' 51 13 = h 51 13 ∧ h' 59 = h 59) := by
  have h6 := W.1
  have hpow := Nat.pow_le_pow_right (show 0 < 2 by omega) h6
  have x64 : X < 64 := by omega
  generalize hpr : Y_pr ev S T (S_dist S Y f (1 - f)) X = pr
  obtain ⟨h1, x1, x2, x3⟩ := mo_party_54_s (ev := ev) x64 hf W P 0 px_F h (by omega) (px_F_lt (by omega)) M A (fun c d _ _ hc => by omega)
  rw [hpr] at x2
  rw [nI_0] at x1
  have F1 : B_fr E_pp h1 (px_w h1 51 56 (nI 1000000)) := (B_fr.refl _ _).w rfl
  obtain ⟨h2, y1, y2, y3, y4⟩ := mo_goParty_s (pr := pr) h6 9 X 0 1000000 (nI X) (px_w h1 51 56 (nI 1000000)) hX (fun _ => by omega) (by omega) (by omega) (by rw [F1 51 4 rfl, x3 51 4 rfl]; exact M.1.1) (B_w_same _ _ _ _) (fun a b hab hb => by rw [F1 77 _ rfl]; exact x2 a b hab hb)
  have eT : mo_goPartyT (nI X) 0 (nI X) (px_w h1 51 56 (nI 1000000)) = some (0, h2) := by
    rw [← y1]
    unfold mo_goPartyT
    rw [px_n10_eq, nI_0]
    rfl
  have ek : px_k 1000000 = nI 1000000 := px_k_eq _
  have F2 : B_fr B_sd h h2 := (x3.mono E_pt_sd).trans ((F1.trans y4).mono E_pp_sd)
  by_cases c : Y_V pr X < 7
  · rw [if_pos ⟨c, by omega⟩, Nat.zero_add] at y2
    have F3 : B_fr B_frm h2 (px_w h2 51 13 0) := (B_fr.refl _ _).w rfl
    obtain ⟨h3, z1, z2, z3⟩ := mo_party_178_s (h := px_w h2 51 13 0) (X := X) (P := P) (m0 := Y_S pr 64 X ((px_w h1 51 56 (nI 1000000)) 75)) (V := Y_V pr X) h6 x64 (by rw [B_w_at, if_neg (by decide), y4 51 4 rfl, F1 51 4 rfl, x3 51 4 rfl]; exact M.1.1) (by rw [B_w_at, if_neg (by decide)]; exact y2.1) (fun c hc => by rw [B_w_cell _ _ _ (show (76 : Nat) ≠ 51 by decide)]; exact y2.2 c hc) (B_rm_nil h2)
    refine ⟨h3, (px_w h1 51 56 (nI 1000000)) 75, F2.trans ((F3.trans z3).mono B_frm_sd), ?_⟩
    rw [if_pos c]
    refine ⟨?_, z2⟩
    rw [x1]
    unfold mo_party_151
    rw [bc_0, eT, B_bind, y2.1, ek, if_neg (fun w => by rw [bn_eq (by omega) (by omega)] at w; omega)]
    exact z1
  · rw [if_neg (fun w => c w.1)] at y2
    refine ⟨h2, h2 75, F2, ?_⟩
    rw [if_neg c]
    refine ⟨?_, ?_, ?_⟩
    · rw [x1]
      unfold mo_party_151
      rw [bc_0, eT, B_bind, y2.1, ek, if_pos rfl, bc_m2]
    · rw [y4 51 13 rfl, F1 51 13 rfl, x3 51 13 rfl]
    · rw [y4.row 59 (fun _ => rfl), F1.row 59 (fun _ => rfl), x3.row 59 (fun _ => rfl)]
theorem B_party (hI : Inv i h) (v0 : Int32) : ∃ r h1 h2, wu_party v0 h = some (r, h1) ∧ mo_party v0 h1 = some (r, h2) ∧ Inv (i + 5) h2 := by
  obtain ⟨P, T, K, Y, n, S, ev, I, r⟩ := hI
  obtain ⟨R, M, W, X0, V, E, L⟩ := id I
  have h6 := W.1
  have h10 := W.2.1
  have h5 := W.2.2.1
  have hpow := Nat.pow_le_pow_right (show 0 < 2 by omega) h6
  have h1pow : 1 ≤ 2 ^ P := Nat.one_le_two_pow
  have ep := pk_pow P (by omega)
  have c10 : h 3 10 = nI P := R.1
  have enz : ∀ g, (if (px_c (-1) : Int32) = 0 then wu_party_20 v0 (px_c (-1)) g else if (px_c (-1) : Int32) = px_c 1 then wu_party_20 v0 (px_c (-1)) g else some (px_c (-1), g)) = some (-1, g) := fun g => by
    rw [bc_m1, bc_1, if_neg (by decide), if_neg (by decide)]
  by_cases q : 1 ≤ v0.toInt ∧ v0.toInt < (2 ^ P : Nat)
  · obtain ⟨X, hX, rfl⟩ := B_is_ex (x := v0) (n := 2 ^ P) (by unfold B_is; exact decide_eq_true ⟨by omega, q.2⟩) (by omega)
    have x64 : X < 64 := by omega
    rw [nI_toInt (by omega)] at q
    have x0 : X ≠ 0 := by omega
    obtain ⟨f1, f2⟩ := Y_f_in X x64 x0
    have hxP : ∀ c, P ≤ c → X.testBit c = false := fun c hc => Nat.testBit_lt_two_pow (Nat.lt_of_lt_of_le hX (Nat.pow_le_pow_right (by omega) hc))
    have fP : Y_f X < P := by
      by_cases c : Y_f X < P
      · exact c
      · rw [hxP (Y_f X) (by omega)] at f2
        cases f2
    obtain ⟨f, hf, ef⟩ := W.2.2.2.2.2.2.1 (Y_f X) fP
    have epl : hs_placeOfAll (nI X) h = some (if (nI X &&& (S_at S P (nI f) ^^^ -1)) = 0 then nI f else -1, h) := by
      unfold hs_placeOfAll
      rw [if_neg (fun w => by rw [bn_le0 (by omega)] at w; omega), c10, bc_1, ep, if_pos (by rw [bn_lt (by omega) (by omega)]; exact hX), wu_firstOf_n x64 x0, B_bind, wa_5 (by omega), B_bind, R.2.2.2.2.2.1 _ fP, ef, hs_peopleAt_s _ R W, B_bind, bc_m1]
      unfold hs_placeOfAll_45
      by_cases c : (nI X &&& (S_at S P (nI f) ^^^ -1)) = 0
      · rw [if_pos c, if_pos c]
      · rw [if_neg c, if_neg c]
    have hmo : ∀ hh, R_m (B_t0 hh) P T K Y S → R_a (B_t0 hh) 52 P T S → mo_party (nI X) hh = if nI 1 < nI f then some (-1, B_t0 hh) else if (nI X &&& (S_at S P (nI f) ^^^ -1)) = 0 then mo_party_54 px_F (nI X) (nI f) 0 (B_t0 hh) else some (-1, B_t0 hh) := fun hh M2 A => by
      unfold mo_party mo_party_50
      rw [bc_0]
      show px_bind (mo_in (nI X) (px_c 1) ((px_c 1 <<< ((B_t0 hh) 51 4 &&& 31)) - px_c 1) (B_t0 hh)) _ = _
      rw [M2.1.1, mo_in_eq, bc_1, ep, pk_sub h1pow, decide_eq_true (by rw [nI_toInt (by omega), nI_toInt (by omega), nI_toInt (by omega)]; omega), B_bind, if_neg (show ¬ B_01 true = 0 by decide), jn_tz, B_bind, Y_tz X x64 x0, po_52 (by omega), B_ift, nI_clamp (by omega)]
      dsimp only
      rw [A.1 _ fP, ef, mo_peopleAt_s _ M2 W, B_bind, bc_m1]
    by_cases hg : f < 2 ∧ (nI X &&& (S_at S P (nI f) ^^^ -1)) = 0
    · obtain ⟨hf2, hg⟩ := hg
      have hD : S_dist S Y f (1 - f) ≤ 60 := by
        have l1 := S_yd_le W hf
        have l2 := S_yd_le W (show 1 - f < 2 + K by omega)
        unfold S_dist
        omega
      have ewu : wu_party (nI X) h = wu_party_20 (nI X) (nI f) h := by
        unfold wu_party
        rw [epl, if_pos hg, B_bind, bc_1]
        by_cases c : f = 0
        · rw [if_pos (by rw [c]; exact nI_0)]
        · rw [if_neg (fun w => by rw [bn_eq0 (by omega)] at w; exact c w), if_pos (by rw [show f = 1 by omega])]
      obtain ⟨h1, a1, a2, a3⟩ := fl_clear_s h
      have C1 : C_h h1 P T K Y S ev := C_h.fr ⟨R, L.1⟩ (a3.mono E_pc_sc)
      obtain ⟨h2, b1, b2, b3⟩ := wu_party_29_s (ev := ev) x64 hf2 W hD 6 0 px_F h1 rfl (px_F_lt (by omega)) C1 (fun c hc => by omega) (fun c _ hc => a2 c hc)
      rw [nI_0] at b1
      obtain ⟨h3, c1, c2, c3⟩ := fl_countBoats_s x64 b2
      have F3 : B_fr B_sc h h3 := ((a3.trans b3).mono E_pc_sc).trans (c3.mono (fun a k e => by
        have := Nat.eq_of_beq_eq_true e
        subst this
        rfl))
      have e20 : wu_party_20 (nI X) (nI f) h = if nI (Y_V (Y_pr ev S T (S_dist S Y f (1 - f)) X) X) ≤ nI 6 then px_bind (fl_tellBoats (nI X) h3) fun _ h4 => some (nI (Y_V (Y_pr ev S T (S_dist S Y f (1 - f)) X) X), h4) else some (-2, h3) := by
        unfold wu_party_20
        rw [a1, B_bind, bc_0, b1, c1, B_bind, bc_6, bc_m2]
      by_cases c : Y_V (Y_pr ev S T (S_dist S Y f (1 - f)) X) X < 7
      · obtain ⟨h4, d1, d2, d3⟩ := fl_tellBoats_s (h := h3) x64 c (fun k hk => by rw [c3 48 k rfl]; exact b2 k hk) c2
        have F4 := F3.trans d3
        obtain ⟨M2, MH, A⟩ := I.mo F4
        obtain ⟨h5', m, y1, y2⟩ := mo_party_54_all (ev := ev) hX x0 hf2 W MH A
        rw [if_pos c] at y2
        have el : Y_l X (Y_S (Y_pr ev S T (S_dist S Y f (1 - f)) X) 64 X (h3 50)) 6 = Y_l X (Y_S (Y_pr ev S T (S_dist S Y f (1 - f)) X) 64 X m) P := by
          have e1 := Y_l_up (m := Y_S (Y_pr ev S T (S_dist S Y f (1 - f)) X) 64 X (h3 50)) hxP (6 - P)
          rw [show P + (6 - P) = 6 by omega] at e1
          rw [e1]
          exact Y_l_ext P (fun c' hc' hb => Y_S_ext 64 X _ _ (by omega) x64 c c' (by omega) (Or.inl hb))
        rw [el] at d2
        refine ⟨nI (Y_V (Y_pr ev S T (S_dist S Y f (1 - f)) X) X), h4, h5', ?_, ?_, B_q1 I F4 ((B_t0_fr _).trans y1) d2 y2.2 (by have := Y_l_len X (Y_S (Y_pr ev S T (S_dist S Y f (1 - f)) X) 64 X m) P; omega)⟩
        · rw [ewu, e20, if_pos (nI_le (by omega) (by omega)), d1, B_bind]
        · rw [hmo _ M2 A, if_neg (fun w => by rw [bn_lt (by omega) (by omega)] at w; omega), if_pos hg, y2.1]
      · obtain ⟨M2, MH, A⟩ := I.mo F3
        obtain ⟨h5', m, y1, y2⟩ := mo_party_54_all (ev := ev) hX x0 hf2 W MH A
        rw [if_neg c] at y2
        have hv7 := Y_V_le7 (pr := Y_pr ev S T (S_dist S Y f (1 - f)) X) x64
        refine ⟨-2, h3, h5', ?_, ?_, B_q0 I r F3 ((B_t0_fr _).trans y1) ?_ ?_ ?_ ?_⟩
        · rw [ewu, e20, if_neg (nI_ge (by omega) (by omega))]
        · rw [hmo _ M2 A, if_neg (fun w => by rw [bn_lt (by omega) (by omega)] at w; omega), if_pos hg, y2.1]
        · rw [c3 45 1 rfl, b3 45 1 rfl, a3 45 1 rfl]
        · rw [c3.row 46 (fun _ => rfl), b3.row 46 (fun _ => rfl), a3.row 46 (fun _ => rfl)]
        · rw [y2.2.1, B_t0_at _ (by decide)]
        · rw [y2.2.2, B_t0_row _ (by decide)]
    · have M2 : R_m (B_t0 h) P T K Y S := M.sm (B_t0_fr _).sm_d
      refine ⟨-1, h, B_t0 h, ?_, ?_, B_qr I r⟩
      · unfold wu_party
        rw [epl]
        by_cases c : (nI X &&& (S_at S P (nI f) ^^^ -1)) = 0
        · have hf2 : ¬ f < 2 := fun w => hg ⟨w, c⟩
          rw [if_pos c, B_bind, bc_1, if_neg (fun w => by rw [bn_eq0 (by omega)] at w; omega), if_neg (fun w => by rw [bn_eq (by omega) (by omega)] at w; omega), bc_m1]
        · rw [if_neg c, B_bind, bc_1, if_neg (by decide), if_neg (by decide), bc_m1]
      · rw [hmo h M2 M2.2]
        by_cases c : f < 2
        · rw [if_neg (fun w => by rw [bn_lt (by omega) (by omega)] at w; omega), if_neg (fun w => hg ⟨c, w⟩)]
        · rw [if_pos (by rw [bn_lt (by omega) (by omega)]; omega)]
  · have M2 : R_m (B_t0 h) P T K Y S := M.sm (B_t0_fr _).sm_d
    refine ⟨-1, h, B_t0 h, ?_, ?_, B_qr I r⟩
    · have epl : hs_placeOfAll v0 h = some (-1, h) := by
        unfold hs_placeOfAll hs_placeOfAll_14
        rw [c10, bc_1, ep, bc_m1]
        by_cases c : v0 ≤ 0
        · rw [if_pos c]
        · rw [if_neg c, if_neg]
          intro w
          rw [Int32.lt_iff_toInt_lt, nI_toInt (by omega)] at w
          rw [Int32.le_iff_toInt_le] at c
          have : (0 : Int32).toInt = 0 := rfl
          omega
      unfold wu_party
      rw [epl, B_bind, bc_1, if_neg (by decide), if_neg (by decide), bc_m1]
    · unfold mo_party
      rw [bc_0]
      show px_bind (mo_in v0 (px_c 1) ((px_c 1 <<< ((B_t0 h) 51 4 &&& 31)) - px_c 1) (B_t0 h)) _ = _
      rw [M2.1.1, mo_in_eq, bc_1, ep, pk_sub h1pow, decide_eq_false (by rw [nI_toInt (by omega), nI_toInt (by omega)]; omega), B_bind, if_pos (show B_01 false = 0 from rfl), bc_m1]
end PARTYM
