/-! Layer B: rule: reading it, one side is the machine -/
section RUW
variable {n m : Nat} {sg : Nat → Nat}
def C_ru (h : pH) (n m : Nat) (sg : Nat → Nat) (z : uS) : Prop := C_rd h n m z.1 sg ∧ C_st h z.2.1 z.2.2.1 ∧ h 17 7 = nI z.2.2.2.1 ∧ ∀ j, j ≤ z.2.2.2.1 → h 21 j = B_01 (z.2.2.2.2 j)
def u_sz (m : Nat) (z : uS) : Prop := z.2.1.length + z.2.2.1.length ≤ z.1 ∧ z.1 ≤ m ∧ z.2.2.2.1 ≤ 4 ∧ ∀ s, s ∈ z.2.2.1 → s = 40 ∨ 1 ≤ u_bond s
theorem u_nx_eq {k c : Nat} (hc : c ≠ 0) : (u_nx sg m k = c) = (k < m ∧ sg k = c) := by
  unfold u_nx
  by_cases q : k < m
  · rw [if_pos q]
    exact propext ⟨fun e => ⟨q, e⟩, fun e => e.2⟩
  · rw [if_neg q]
    exact propext ⟨fun e => absurd e.symm hc, fun e => absurd e.1 q⟩
theorem C_rd.us {h h' : pH} {k : Nat} (C : C_rd h n m k sg) (F : B_fr E_us h h') : C_rd h' n m k sg := by
  obtain ⟨c1, c2, c3, c4⟩ := C
  exact ⟨by rw [F 1 1 rfl, c1], by rw [F 1 2 rfl, c2], by rw [F 1 3 rfl, c3], fun j hj => by rw [F 2 j rfl]; exact c4 j hj⟩
theorem C_st.tx {h h' : pH} {out : List uC} {st : List Nat} (C : C_st h out st) (F : B_fr E_tx h h') : C_st h' out st := C.fr (F 17 5 rfl) (F 17 6 rfl) (F.row 19 (fun _ => rfl)) (F.row 20 (fun _ => rfl))
theorem ru_readThing_71_s {h : pH} {z : uS} (hn : n ≤ 80) (hm : m ≤ n) (hm40 : m ≤ 40) (hs : ∀ j, j < n → sg j < 256) (C : C_ru h n m sg z) (Z : u_sz m z) (h1 : ¬ u_nx sg m z.1 = 45) (h2 : ¬ (z.2.2.2.1 < 4 ∧ u_nx sg m z.1 = 40)) : (∃ h', u_E sg m z = .inr (.inl z.1) ∧ ru_readThing_71 h = some (0, h') ∧ h' 1 4 = nI z.1 ∧ B_fr E_ru h h') ∨ (∃ z2 h', u_E sg m z = .inl (true, z2) ∧ ru_readThing_71 h = some (nI 1, h') ∧ C_ru h' n m sg z2 ∧ u_sz m z2 ∧ z.1 < z2.1 ∧ B_fr E_ru h h') := by
  obtain ⟨k, out, st, nst, cmp⟩ := z
  obtain ⟨c1, c2, c3, c4⟩ := C
  obtain ⟨z1, z2, z3, z4⟩ := Z
  dsimp only at *
  have hsm : ∀ j, j < m → sg j < 256 := fun j hj => hs j (by omega)
  unfold u_E ru_readThing_71
  dsimp only
  rw [if_neg h1, if_neg h2, tx_isDigit_s c1 hm hn z2 hs, B_bind]
  cases hd : S_dg sg m k with
  | true =>
    have hk := (S_dg_lt hd).1
    rw [if_neg (show ¬ B_01 true = 0 by decide), if_pos rfl, bc_3, bc_0, bc_999]
    obtain ⟨h2', a1, a2, a3, a4, a5, a6⟩ := tx_num3_s c1 hm hn z2 hs hd
    obtain ⟨h3, b1, b2, b3⟩ := ru_write_s (c2.tx a6) (by omega) (false, (u_num sg m k).1)
    have b1' : ru_write (nI (u_num sg m k).1) h2' = some (0, h3) := b1
    rw [a1, B_bind, b1', B_bind, bc_1, B_bz1]
    refine Or.inr ⟨_, h3, rfl, rfl, ⟨a2.us b3, b2, by rw [b3 17 7 rfl, a6 17 7 rfl, c3], fun j hj => ?_⟩, ⟨?_, a5, z3, z4⟩, a4, (a6.mono E_tx_ru).trans (b3.mono E_us_ru)⟩
    · rw [b3 21 j rfl, a6 21 j rfl]
      exact c4 j hj
    · dsimp only
      rw [List.length_append, List.length_singleton]
      omega
  | false =>
    rw [if_pos (show B_01 false = 0 from rfl), if_neg (by decide), tx_next_s c1 hm hn z2, B_bind, ru_isLetter_x hsm k, B_bind]
    cases hl : u_let (u_nx sg m k) with
    | false =>
      rw [if_pos (show B_01 false = 0 from rfl), if_neg (by decide)]
      refine Or.inl ⟨px_w h 1 4 (nI k), rfl, ?_, B_w_same _ _ _ _, (B_fr.refl _ h).w rfl⟩
      unfold tx_refuse
      dsimp only
      rw [c1.2.1, bc_0, B_bz0, B_bind, B_bz0]
    | true =>
      have hk : k < m := by
        unfold u_nx at hl
        by_cases q : k < m
        · exact q
        · rw [if_neg q] at hl
          cases hl
      have hnx : S_nxt sg m k = nI (u_nx sg m k) := by
        unfold S_nxt u_nx
        rw [if_pos hk, if_pos hk]
      rw [if_neg (show ¬ B_01 true = 0 by decide), if_pos rfl]
      have ht : tx_skip h = some (0, px_w h 1 2 (nI (k + 1))) := by
        unfold tx_skip
        rw [c1.2.1, bc_1, nI_add]
      have F2 : B_fr E_tx h (px_w h 1 2 (nI (k + 1))) := (B_fr.refl _ h).w rfl
      obtain ⟨h3, b1, b2, b3⟩ := ru_write_s (c2.tx F2) (by omega) (true, u_nx sg m k)
      have b1' : ru_write (-(nI (u_nx sg m k))) (px_w h 1 2 (nI (k + 1))) = some (0, h3) := b1
      rw [ht, B_bind, hnx, b1', B_bind, bc_1, B_bz1]
      refine Or.inr ⟨_, h3, rfl, rfl, ⟨(c1.to (k + 1)).us b3, b2, by rw [b3 17 7 rfl, F2 17 7 rfl, c3], fun j hj => ?_⟩, ⟨?_, by show k + 1 ≤ m; omega, z3, z4⟩, by show k < k + 1; omega, (F2.mono E_tx_ru).trans (b3.mono E_us_ru)⟩
      · rw [b3 21 j rfl, F2 21 j rfl]
        exact c4 j hj
      · dsimp only
        rw [List.length_append, List.length_singleton]
        omega
theorem ru_readThing_2_s (hn : n ≤ 80) (hm : m ≤ n) (hm40 : m ≤ 40) (hs : ∀ j, j < n → sg j < 256) (r : Nat ⊕ List uC) : ∀ (d : Nat) (z : uS) (g j : Nat) (h : pH), C_ru h n m sg z → u_sz m z → j ≤ z.1 → 41 < g + j → u_run sg n m d (false, z) = some r → (∃ f h', r = .inl f ∧ f ≤ m ∧ ru_readThing_2 g (nI j) h = some (0, h') ∧ h' 1 4 = nI f ∧ B_fr E_ru h h') ∨ (∃ d2 z2 h', d2 < d ∧ u_run sg n m d2 (true, z2) = some r ∧ ru_readThing_2 g (nI j) h = some (nI 1, h') ∧ C_ru h' n m sg z2 ∧ u_sz m z2 ∧ z.1 < z2.1 ∧ B_fr E_ru h h') := by
  intro d
  induction d with
  | zero => intro z g j h _ _ _ _ hr; cases hr
  | succ d ih =>
    intro z g j h C Z hj hg hr
    obtain ⟨d2, e2, hr2⟩ := u_run_pos hr
    obtain rfl : d = d2 := by omega
    have hzm := Z.2.1
    obtain ⟨g, rfl⟩ : ∃ n', g = n' + 1 := ⟨g - 1, by omega⟩
    have hE : u_stp sg n m (false, z) = u_E sg m z := rfl
    rw [hE] at hr2
    have hq45 := u_nx_eq (sg := sg) (m := m) (k := z.1) (show 45 ≠ 0 by decide)
    have hq40 := u_nx_eq (sg := sg) (m := m) (k := z.1) (show 40 ≠ 0 by decide)
    by_cases q : u_nx sg m z.1 = 45
    · obtain ⟨k, out, st, nst, cmp⟩ := z
      obtain ⟨c1, c2, c3, c4⟩ := C
      obtain ⟨z1, z2, z3, z4⟩ := Z
      dsimp only at *
      have q2 := hq45.mp q
      have F2 : B_fr E_tx h (px_w h 1 2 (nI (k + 1))) := (B_fr.refl _ h).w rfl
      obtain ⟨h3, b1, b2, b3⟩ := ru_defer_s (c2.tx F2) (by omega) 256
      have hz : ru_readThing_2 (g + 1) (nI j) h = ru_readThing_2 g (nI (j + 1)) h3 := by
        show (if px_c 40 ≤ nI j then _ else _) = _
        rw [bc_40, if_neg (nI_ge (by omega) (by omega)), bc_45, tx_meet_m c1 hm hn z2 hs (z := 45) (by omega), if_pos q2, B_bind, if_neg (show ¬ nI 1 = 0 by decide), bc_256, b1, B_bind]
        unfold ru_readThing_65
        rw [bc_1, nI_add]
      have hE2 : u_E sg m (k, out, st, nst, cmp) = .inl (false, (k + 1, out, 256 :: st, nst, cmp)) := by
        unfold u_E
        dsimp only
        rw [if_pos q]
      rw [hE2] at hr2
      rcases hr2 with ⟨z2', e3, hr3⟩ | e3
      · cases e3
        have FF : B_fr E_ru h h3 := (F2.mono E_tx_ru).trans (b3.mono E_us_ru)
        rcases ih (k + 1, out, 256 :: st, nst, cmp) g (j + 1) h3 ⟨(c1.to (k + 1)).us b3, b2, by rw [b3 17 7 rfl, F2 17 7 rfl, c3], fun i hi => by rw [b3 21 i rfl, F2 21 i rfl]; exact c4 i hi⟩ ⟨by dsimp only; rw [List.length_cons]; omega, by show k + 1 ≤ m; omega, z3, fun s hs' => by
          rcases List.mem_cons.mp hs' with e | e
          · rw [e]
            exact Or.inr (by decide)
          · exact z4 s e⟩ (by show j + 1 ≤ k + 1; omega) (by omega) hr3 with ⟨f, h', x1, x2, x3, x4, x5⟩ | ⟨d2, z2', h', x1, x2, x3, x4, x5, x6, x7⟩
        · exact Or.inl ⟨f, h', x1, x2, by rw [hz, x3], x4, FF.trans x5⟩
        · exact Or.inr ⟨d2, z2', h', by omega, x2, by rw [hz, x3], x4, x5, by show k < z2'.1; change k + 1 < z2'.1 at x6; omega, FF.trans x7⟩
      · cases e3
    · by_cases q2 : z.2.2.2.1 < 4 ∧ u_nx sg m z.1 = 40
      · obtain ⟨k, out, st, nst, cmp⟩ := z
        obtain ⟨c1, c2, c3, c4⟩ := C
        obtain ⟨z1, z2, z3, z4⟩ := Z
        dsimp only at *
        have q3 := hq40.mp q2.2
        have q1 : ¬ (k < m ∧ sg k = 45) := fun w => q (hq45.mpr w)
        have F2 : B_fr E_tx h (px_w h 1 2 (nI (k + 1))) := (B_fr.refl _ h).w rfl
        obtain ⟨h3, b1, b2, b3⟩ := ru_defer_s (c2.tx F2) (by omega) 40
        have e7 : h3 17 7 = nI nst := by rw [b3 17 7 rfl, F2 17 7 rfl, c3]
        have hz : ru_readThing_2 (g + 1) (nI j) h = ru_readThing_2 g (nI (j + 1)) (px_w (px_w h3 17 7 (nI (nst + 1))) 21 (nst + 1) (B_01 false)) := by
          show (if px_c 40 ≤ nI j then _ else _) = _
          rw [bc_40, if_neg (nI_ge (by omega) (by omega)), bc_45, tx_meet_m c1 hm hn z2 hs (z := 45) (by omega), if_neg q1, B_bind, if_pos rfl, bc_4, c3, if_neg (nI_ge q2.1 (by omega)), tx_meet_m c1 hm hn z2 hs (z := 40) (by omega), if_pos q3, B_bind, if_neg (show ¬ nI 1 = 0 by decide), b1, B_bind, bc_1, e7, nI_add]
          have := ru_compare_s (h := px_w h3 17 7 (nI (nst + 1))) (j := nst + 1) (b := false) (by omega) (B_w_same _ _ _ _)
          rw [B_01_f] at this
          rw [bc_0]
          dsimp only
          rw [this, B_bind]
          unfold ru_readThing_65
          rw [bc_1, nI_add, B_01_f]
        have hE2 : u_E sg m (k, out, st, nst, cmp) = .inl (false, (k + 1, out, 40 :: st, nst + 1, u_set cmp (nst + 1) false)) := by
          unfold u_E
          dsimp only
          rw [if_neg q, if_pos q2]
        rw [hE2] at hr2
        rcases hr2 with ⟨z2', e3, hr3⟩ | e3
        · cases e3
          have FF : B_fr E_ru h (px_w (px_w h3 17 7 (nI (nst + 1))) 21 (nst + 1) (B_01 false)) := (((F2.mono E_tx_ru).trans (b3.mono E_us_ru)).w rfl).w rfl
          have hC : C_ru (px_w (px_w h3 17 7 (nI (nst + 1))) 21 (nst + 1) (B_01 false)) n m sg (k + 1, out, 40 :: st, nst + 1, u_set cmp (nst + 1) false) := by
            refine ⟨?_, ?_, ?_, fun i hi => ?_⟩
            · obtain ⟨y1, y2, y3, y4⟩ := (c1.to (k + 1)).us b3
              exact ⟨by rw [B_w_cell _ _ _ (by decide), B_w_cell _ _ _ (by decide), y1], by rw [B_w_cell _ _ _ (by decide), B_w_cell _ _ _ (by decide), y2], by rw [B_w_cell _ _ _ (by decide), B_w_cell _ _ _ (by decide), y3], fun i hi => by rw [B_w_cell _ _ _ (by decide), B_w_cell _ _ _ (by decide)]; exact y4 i hi⟩
            · exact b2.fr (by rw [B_w_cell _ _ _ (by decide), B_w_at, if_neg (by decide)]) (by rw [B_w_cell _ _ _ (by decide), B_w_at, if_neg (by decide)]) (by rw [B_w_cell _ _ _ (by decide), B_w_cell _ _ _ (by decide)]) (by rw [B_w_cell _ _ _ (by decide), B_w_cell _ _ _ (by decide)])
            · rw [B_w_cell _ _ _ (by decide), B_w_same]
            · change i ≤ nst + 1 at hi
              rw [B_w_at]
              show _ = B_01 (if i = nst + 1 then false else cmp i)
              by_cases w : i = nst + 1
              · rw [if_pos w, if_pos w]
              · rw [if_neg w, if_neg w, B_w_cell _ _ _ (by decide), b3 21 i rfl, F2 21 i rfl]
                exact c4 i (by omega)
          rcases ih (k + 1, out, 40 :: st, nst + 1, u_set cmp (nst + 1) false) g (j + 1) (px_w (px_w h3 17 7 (nI (nst + 1))) 21 (nst + 1) (B_01 false)) hC ⟨by dsimp only; rw [List.length_cons]; omega, by show k + 1 ≤ m; omega, by show nst + 1 ≤ 4; omega, fun s hs' => by
            rcases List.mem_cons.mp hs' with e | e
            · exact Or.inl e
            · exact z4 s e⟩ (by show j + 1 ≤ k + 1; omega) (by omega) hr3 with ⟨f, h', x1, x2, x3, x4, x5⟩ | ⟨d2, z2', h', x1, x2, x3, x4, x5, x6, x7⟩
          · exact Or.inl ⟨f, h', x1, x2, by rw [hz, x3], x4, FF.trans x5⟩
          · exact Or.inr ⟨d2, z2', h', by omega, x2, by rw [hz, x3], x4, x5, by show k < z2'.1; change k + 1 < z2'.1 at x6; omega, FF.trans x7⟩
        · cases e3
      · have hz : ru_readThing_2 (g + 1) (nI j) h = ru_readThing_71 h := by
          obtain ⟨c1, c2, c3, c4⟩ := C
          have q1 : ¬ (z.1 < m ∧ sg z.1 = 45) := fun w => q (hq45.mpr w)
          show (if px_c 40 ≤ nI j then _ else _) = _
          rw [bc_40, bc_45, tx_meet_m c1 hm hn hzm hs (z := 45) (by omega), if_neg q1, B_bind, if_pos rfl, bc_4, c3]
          by_cases w : z.2.2.2.1 < 4
          · rw [if_neg (nI_ge w (by omega)), tx_meet_m c1 hm hn hzm hs (z := 40) (by omega), if_neg (fun e => q2 ⟨w, hq40.mpr e⟩), B_bind, if_pos rfl]
            split <;> rfl
          · have := Z.2.2.1
            rw [if_pos (show nI 4 ≤ nI z.2.2.2.1 from nI_le (by omega) (by omega))]
            split <;> rfl
        rcases ru_readThing_71_s hn hm hm40 hs C Z q q2 with ⟨h', x1, x2, x3, x4⟩ | ⟨z2, h', x1, x2, x3, x4, x5, x6⟩
        · rw [x1] at hr2
          rcases hr2 with ⟨z2', e3, hr3⟩ | e3
          · cases e3
          · cases e3
            exact Or.inl ⟨z.1, h', rfl, hzm, by rw [hz, x2], x3, x4⟩
        · rw [x1] at hr2
          rcases hr2 with ⟨z2', e3, hr3⟩ | e3
          · cases e3
            exact Or.inr ⟨d, z2, h', Nat.lt_succ_self d, hr3, by rw [hz, x2], x3, x4, x5, x6⟩
          · cases e3
theorem ru_closeParentheses_2_s (hn : n ≤ 80) (hm : m ≤ n) (hm40 : m ≤ 40) (hs : ∀ j, j < n → sg j < 256) (r : Nat ⊕ List uC) : ∀ (d : Nat) (z : uS) (g j : Nat) (h : pH), C_ru h n m sg z → u_sz m z → j + z.2.2.2.1 ≤ 4 → 5 < g + j → u_run sg n m d (true, z) = some r → ∃ d2 z2 h', d2 ≤ d ∧ u_run sg n m d2 (true, z2) = some r ∧ ¬ (0 < z2.2.2.2.1 ∧ u_nx sg m z2.1 = 41) ∧ ru_closeParentheses_2 g (nI j) h = some (0, h') ∧ C_ru h' n m sg z2 ∧ u_sz m z2 ∧ z.1 ≤ z2.1 ∧ B_fr E_ru h h' := by
  intro d
  induction d with
  | zero => intro z g j h _ _ _ _ hr; cases hr
  | succ d ih =>
    intro z g j h C Z hj hg hr
    obtain ⟨g, rfl⟩ : ∃ n', g = n' + 1 := ⟨g - 1, by omega⟩
    by_cases q : 0 < z.2.2.2.1 ∧ u_nx sg m z.1 = 41
    · obtain ⟨d2, e2, hr2⟩ := u_run_pos hr
      obtain rfl : d = d2 := by omega
      obtain ⟨k, out, st, nst, cmp⟩ := z
      obtain ⟨c1, c2, c3, c4⟩ := C
      obtain ⟨z1, z2, z3, z4⟩ := Z
      have hA : u_stp sg n m (true, (k, out, st, nst, cmp)) = .inl (true, (k + 1, (u_W 1 out st).1, (u_W 1 out st).2.tail, nst - 1, cmp)) := by
        show u_A sg n m (k, out, st, nst, cmp) = _
        unfold u_A
        rw [if_pos q]
      rw [hA] at hr2
      dsimp only at *
      have q2 := (u_nx_eq (sg := sg) (m := m) (k := k) (show 41 ≠ 0 by decide)).mp q.2
      have F2 : B_fr E_tx h (px_w h 1 2 (nI (k + 1))) := (B_fr.refl _ h).w rfl
      obtain ⟨h3, b1, b2, b3⟩ := ru_writeWaiting_s (b := 1) (by omega) (c2.tx F2) (by omega) z4
      obtain ⟨l1, l2, l3⟩ := u_W_len 1 st out
      have e7 : h3 17 7 = nI nst := by rw [b3 17 7 rfl, F2 17 7 rfl, c3]
      have FF : B_fr E_ru h h3 := (F2.mono E_tx_ru).trans (b3.mono E_us_ru)
      -- the parenthesis goes
      have hpop : ∃ h4, (if h3 17 6 ≤ 0 then ru_closeParentheses_45 (ru_closeParentheses_2 g) (nI j) h3 else ru_closeParentheses_45 (ru_closeParentheses_2 g) (nI j) (px_w h3 17 6 (h3 17 6 - nI 1))) = ru_closeParentheses_2 g (nI (j + 1)) (px_w h4 17 7 (nI (nst - 1))) ∧ C_st h4 (u_W 1 out st).1 (u_W 1 out st).2.tail ∧ B_fr E_us h3 h4 := by
        cases hw : (u_W 1 out st).2 with
        | nil =>
          rw [hw] at b2
          refine ⟨h3, ?_, b2, B_fr.refl _ _⟩
          have e6 : h3 17 6 = 0 := b2.2.1
          rw [e6, if_pos (by decide)]
          unfold ru_closeParentheses_45
          rw [bc_1, e7, nI_add, pk_sub (by omega)]
        | cons s st2 =>
          rw [hw] at b2
          have e6 : h3 17 6 = nI (st2.length + 1) := b2.2.1
          refine ⟨px_w h3 17 6 (nI st2.length), ?_, b2.pop, (B_fr.refl _ h3).w rfl⟩
          have hl : st2.length < 40 := by
            rw [hw, List.length_cons] at l2
            omega
          rw [e6, if_neg (fun w => by rw [bn_le0 (by omega)] at w; omega), pk_sub (by omega), Nat.add_sub_cancel]
          unfold ru_closeParentheses_45
          rw [bc_1, B_w_at, if_neg (by decide), e7, nI_add, pk_sub (by omega)]
      obtain ⟨h4, p1, p2, p3⟩ := hpop
      have hz : ru_closeParentheses_2 (g + 1) (nI j) h = ru_closeParentheses_2 g (nI (j + 1)) (px_w h4 17 7 (nI (nst - 1))) := by
        show (if px_c 4 ≤ nI j then _ else if h 17 7 ≤ 0 then _ else _) = _
        rw [bc_4, if_neg (nI_ge (by omega) (by omega)), c3, if_neg (fun w => by rw [bn_le0 (by omega)] at w; omega), bc_41, tx_meet_m c1 hm hn z2 hs (z := 41) (by omega), if_pos q2, B_bind, if_neg (show ¬ nI 1 = 0 by decide), bc_1, b1, B_bind]
        exact p1
      rcases hr2 with ⟨z2', e3, hr3⟩ | e3
      · cases e3
        have FF4 : B_fr E_ru h (px_w h4 17 7 (nI (nst - 1))) := (FF.trans (p3.mono E_us_ru)).w rfl
        have hC : C_ru (px_w h4 17 7 (nI (nst - 1))) n m sg (k + 1, (u_W 1 out st).1, (u_W 1 out st).2.tail, nst - 1, cmp) := by
          refine ⟨?_, ?_, B_w_same _ _ _ _, fun i hi => ?_⟩
          · obtain ⟨y1, y2, y3, y4⟩ := ((c1.to (k + 1)).us b3).us p3
            exact ⟨by rw [B_w_cell _ _ _ (by decide), y1], by rw [B_w_cell _ _ _ (by decide), y2], by rw [B_w_cell _ _ _ (by decide), y3], fun i hi => by rw [B_w_cell _ _ _ (by decide)]; exact y4 i hi⟩
          · exact p2.fr (by rw [B_w_at, if_neg (by decide)]) (by rw [B_w_at, if_neg (by decide)]) (by rw [B_w_cell _ _ _ (by decide)]) (by rw [B_w_cell _ _ _ (by decide)])
          · change i ≤ nst - 1 at hi
            rw [B_w_cell _ _ _ (by decide), p3 21 i rfl, b3 21 i rfl, F2 21 i rfl]
            exact c4 i (by omega)
        have hZ : u_sz m (k + 1, (u_W 1 out st).1, (u_W 1 out st).2.tail, nst - 1, cmp) := by
          refine ⟨?_, by show k + 1 ≤ m; omega, by show nst - 1 ≤ 4; omega, fun s hs' => z4 s (l3 s (List.mem_of_mem_tail hs'))⟩
          dsimp only
          rw [List.length_tail]
          omega
        obtain ⟨d3, z3', h', x1, x2, x3, x4, x5, x6, x7, x8⟩ := ih _ g (j + 1) _ hC hZ (by show j + 1 + (nst - 1) ≤ 4; omega) (by omega) hr3
        exact ⟨d3, z3', h', by omega, x2, x3, by rw [hz, x4], x5, x6, by change k + 1 ≤ z3'.1 at x7; show k ≤ z3'.1; omega, FF4.trans x8⟩
      · cases e3
    · refine ⟨d + 1, z, h, Nat.le_refl _, hr, q, ?_, C, Z, Nat.le_refl _, B_fr.refl _ _⟩
      obtain ⟨c1, c2, c3, c4⟩ := C
      have z3 := Z.2.2.1
      show (if px_c 4 ≤ nI j then ru_closeParentheses_61 h else if h 17 7 ≤ 0 then ru_closeParentheses_61 h else _) = some (0, h)
      rw [c3, bc_41]
      by_cases w : 0 < z.2.2.2.1
      · rw [if_neg (show ¬ nI z.2.2.2.1 ≤ 0 from fun e => by rw [bn_le0 (by omega)] at e; omega), tx_meet_m c1 hm hn Z.2.1 hs (z := 41) (by omega), if_neg (fun e => q ⟨w, (u_nx_eq (by decide)).mpr e⟩), B_bind, if_pos rfl]
        split <;> rfl
      · rw [if_pos (show nI z.2.2.2.1 ≤ 0 by rw [bn_le0 (by omega)]; omega)]
        split <;> rfl
theorem ru_readJoint_s {h : pH} {z : uS} (hn : n ≤ 80) (hm : m ≤ n) (hm40 : m ≤ 40) (hs : ∀ j, j < n → sg j < 256) (C : C_ru h n m sg z) (Z : u_sz m z) (h1 : ¬ (0 < z.2.2.2.1 ∧ u_nx sg m z.1 = 41)) (h2 : ¬ (z.2.2.2.1 = 0 ∧ ¬ z.1 < m)) : (∃ h', u_A sg n m z = .inr (.inl z.1) ∧ ru_readJoint h = some (0, h') ∧ h' 1 4 = nI z.1 ∧ B_fr E_ru h h') ∨ (∃ z2 h', u_A sg n m z = .inl (false, z2) ∧ ru_readJoint h = some (nI 1, h') ∧ C_ru h' n m sg z2 ∧ u_sz m z2 ∧ z.1 < z2.1 ∧ B_fr E_ru h h') := by
  obtain ⟨k, out, st, nst, cmp⟩ := z
  obtain ⟨c1, c2, c3, c4⟩ := C
  obtain ⟨z1, z2, z3, z4⟩ := Z
  dsimp only at *
  have hsm : ∀ j, j < m → sg j < 256 := fun j hj => hs j (by omega)
  have e26 : ru_readJoint_26 h = some (0, px_w h 1 4 (nI k)) := by
    unfold ru_readJoint_26 tx_refuse
    dsimp only
    rw [c1.2.1, bc_0, B_bz0, B_bind, B_bz0]
  have hb4 : u_bond (u_nx sg m k) ≤ 3 := by
    unfold u_nx u_bond
    by_cases q : k < m
    · have := hsm k q
      rw [if_pos q]
      repeat' split
      all_goals omega
    · rw [if_neg q]
      decide
  have hic := ru_isCompared_s (h := h) (b := cmp nst) z3 c3 (c4 nst (Nat.le_refl _))
  -- what a good joint does
  have hgo : ¬ u_bond (u_nx sg m k) = 0 → ∃ h', ru_readJoint_31 (S_nxt sg m k) (nI (u_bond (u_nx sg m k))) h = some (nI 1, h') ∧ C_ru h' n m sg (k + 1, (u_W (u_bond (u_nx sg m k)) out st).1, u_nx sg m k :: (u_W (u_bond (u_nx sg m k)) out st).2, nst, if u_bond (u_nx sg m k) = 1 then u_set cmp nst true else cmp) ∧ u_sz m (k + 1, (u_W (u_bond (u_nx sg m k)) out st).1, u_nx sg m k :: (u_W (u_bond (u_nx sg m k)) out st).2, nst, if u_bond (u_nx sg m k) = 1 then u_set cmp nst true else cmp) ∧ B_fr E_ru h h' := by
    intro hb
    have hk : k < m := by
      by_cases q : k < m
      · exact q
      · exfalso
        apply hb
        unfold u_nx
        rw [if_neg q]
        rfl
    have hnx : S_nxt sg m k = nI (u_nx sg m k) := by
      unfold S_nxt u_nx
      rw [if_pos hk, if_pos hk]
    obtain ⟨l1, l2, l3⟩ := u_W_len (u_bond (u_nx sg m k)) st out
    -- with compared set or not
    obtain ⟨h2', d1, d2, d3, d4⟩ : ∃ h2', ru_readJoint_31 (S_nxt sg m k) (nI (u_bond (u_nx sg m k))) h = ru_readJoint_41 (S_nxt sg m k) (nI (u_bond (u_nx sg m k))) h2' ∧ B_fr E_ru h h2' ∧ (∀ j, j ≤ nst → h2' 21 j = B_01 ((if u_bond (u_nx sg m k) = 1 then u_set cmp nst true else cmp) j)) ∧ ∀ a, a ≠ 21 → h2' a = h a := by
      unfold ru_readJoint_31
      by_cases q : u_bond (u_nx sg m k) = 1
      · rw [q, bc_1, if_pos rfl, if_pos rfl]
        have := ru_compare_s (h := h) (b := true) z3 c3
        rw [B_01_t] at this
        rw [this, B_bind]
        refine ⟨_, rfl, (B_fr.refl _ h).w rfl, fun j hj => ?_, fun a ha => B_w_cell _ _ _ ha⟩
        rw [B_w_at]
        show _ = B_01 (if j = nst then true else cmp j)
        by_cases w : j = nst
        · rw [if_pos w, if_pos w]
          rfl
        · rw [if_neg w, if_neg w]
          exact c4 j hj
      · rw [bc_1, if_neg (fun w => q ((nI_eq (by omega) (by omega)).mp w)), if_neg q]
        exact ⟨h, rfl, B_fr.refl _ _, c4, fun _ _ => rfl⟩
    have c1' : C_rd h2' n m k sg := by
      obtain ⟨y1, y2, y3, y4⟩ := c1
      exact ⟨by rw [d4 1 (by decide), y1], by rw [d4 1 (by decide), y2], by rw [d4 1 (by decide), y3], fun i hi => by rw [d4 2 (by decide)]; exact y4 i hi⟩
    have c2' : C_st h2' out st := c2.fr (by rw [d4 17 (by decide)]) (by rw [d4 17 (by decide)]) (d4 19 (by decide)) (d4 20 (by decide))
    have ht : tx_skip h2' = some (0, px_w h2' 1 2 (nI (k + 1))) := by
      unfold tx_skip
      rw [c1'.2.1, bc_1, nI_add]
    have F2 : B_fr E_tx h2' (px_w h2' 1 2 (nI (k + 1))) := (B_fr.refl _ h2').w rfl
    obtain ⟨h3, b1, b2, b3⟩ := ru_writeWaiting_s (b := u_bond (u_nx sg m k)) (by omega) (c2'.tx F2) (by omega) z4
    obtain ⟨h4, f1, f2, f3⟩ := ru_defer_s b2 (by omega) (u_nx sg m k)
    refine ⟨h4, ?_, ⟨((c1'.to (k + 1)).us b3).us f3, f2, ?_, fun j hj => ?_⟩, ⟨?_, by show k + 1 ≤ m; omega, z3, fun s hs' => ?_⟩, ((d2.trans (F2.mono E_tx_ru)).trans (b3.mono E_us_ru)).trans (f3.mono E_us_ru)⟩
    · rw [d1]
      unfold ru_readJoint_41
      rw [ht, B_bind, b1, B_bind, hnx, f1, B_bind, bc_1, B_bz1]
    · rw [f3 17 7 rfl, b3 17 7 rfl, F2 17 7 rfl, d4 17 (by decide), c3]
    · rw [f3 21 j rfl, b3 21 j rfl, F2 21 j rfl]
      exact d3 j hj
    · dsimp only
      rw [List.length_cons]
      omega
    · rcases List.mem_cons.mp hs' with e | e
      · rw [e]
        exact Or.inr (by omega)
      · exact z4 s (l3 s e)
  unfold u_A ru_readJoint
  dsimp only
  rw [if_neg h1, if_neg h2, tx_next_s c1 hm hn z2, B_bind, ru_bondOf_x hsm k, B_bind, e26, bc_1]
  by_cases b0 : u_bond (u_nx sg m k) = 0
  · rw [if_pos (show nI (u_bond (u_nx sg m k)) = 0 by rw [b0, nI_0]), if_pos (Or.inl b0)]
    exact Or.inl ⟨_, rfl, rfl, B_w_same _ _ _ _, (B_fr.refl _ h).w rfl⟩
  · rw [if_neg (nI_ne0 (by omega) (by omega))]
    obtain ⟨h', x1, x2, x3, x4⟩ := hgo b0
    by_cases b1 : u_bond (u_nx sg m k) = 1
    · rw [if_pos (show nI (u_bond (u_nx sg m k)) = nI 1 by rw [b1]), hic, B_bind]
      by_cases hc : cmp nst = true
      · rw [if_neg (show ¬ B_01 (cmp nst) = 0 by rw [hc]; decide), if_pos (Or.inr ⟨b1, hc⟩)]
        exact Or.inl ⟨_, rfl, e26, B_w_same _ _ _ _, (B_fr.refl _ h).w rfl⟩
      · rw [if_pos (show B_01 (cmp nst) = 0 by rw [Bool.eq_false_iff.mpr hc]; rfl), if_neg (fun w => by
          rcases w with w | w
          · exact b0 w
          · exact hc w.2), x1]
        exact Or.inr ⟨_, h', rfl, rfl, x2, x3, by show k < k + 1; omega, x4⟩
    · rw [if_neg (fun w => b1 ((nI_eq (by omega) (by omega)).mp w)), if_neg (fun w => by
        rcases w with w | w
        · exact b0 w
        · exact b1 w.1), x1]
      exact Or.inr ⟨_, h', rfl, rfl, x2, x3, by show k < k + 1; omega, x4⟩
theorem ru_readExpression_23_s (hn : n ≤ 80) (hm : m ≤ n) (hm40 : m ≤ 40) (hs : ∀ j, j < n → sg j < 256) (r : Nat ⊕ List uC) : ∀ (D d : Nat) (z : uS) (g x : Nat) (h : pH), d ≤ D → C_ru h n m sg z → u_sz m z → x ≤ z.1 → 42 < g + x → u_run sg n m d (false, z) = some r → (∃ f h', r = .inl f ∧ f ≤ m ∧ ru_readExpression_23 g (nI x) h = some (0, h') ∧ h' 1 4 = nI f ∧ B_fr E_ru h h') ∨ (∃ l h', r = .inr l ∧ ru_readExpression_23 g (nI x) h = some (nI 1, h') ∧ h' 17 5 = nI l.length ∧ (∀ i, i < l.length → h' 19 i = uI (l.getD i (false, 0))) ∧ l.length ≤ 40 ∧ m = n ∧ B_fr E_ru h h') := by
  intro D
  induction D with
  | zero =>
    intro d z g x h hd _ _ _ _ hr
    obtain rfl : d = 0 := by omega
    cases hr
  | succ D ih =>
    intro d z g x h hd C Z hx hg hr
    obtain ⟨g, rfl⟩ : ∃ n', g = n' + 1 := ⟨g - 1, by have := Z.2.1; omega⟩
    have hzm := Z.2.1
    have hz : ru_readExpression_23 (g + 1) (nI x) h = px_bind (ru_readThing h) fun z3 h4 => if z3 = 0 then px_bz 0 h4 else px_bind (ru_closeParentheses h4) fun _ h6 => if h6 17 7 = 0 then px_bind (tx_next h6) fun z7 h8 => if z7 = -1 then px_bind (ru_writeWaiting (nI 0) h8) fun _ h10 => px_bind (tx_closes h10) fun z11 h12 => px_bz z11 h12 else ru_readExpression_69 (ru_readExpression_23 g) (nI x) h8 else ru_readExpression_69 (ru_readExpression_23 g) (nI x) h6 := by
      show (if px_c 40 < nI x then _ else _) = _
      rw [bc_40, if_neg (fun w => by rw [bn_lt (by omega) (by omega)] at w; omega), bc_0, bc_m1, nI_0]
    have hrt : ru_readThing h = ru_readThing_2 px_F (nI 0) h := by
      unfold ru_readThing
      rw [bc_0, nI_0]
    have hrc : ∀ hh, ru_closeParentheses hh = ru_closeParentheses_2 px_F (nI 0) hh := fun hh => by
      unfold ru_closeParentheses
      rw [bc_0, nI_0]
    have hF : 100 < px_F := px_F_lt (by omega)
    rcases ru_readThing_2_s hn hm hm40 hs r d z px_F 0 h C Z (by omega) (by omega) hr with ⟨f, h', x1, x2, x3, x4, x5⟩ | ⟨d2, z2, h2, x1, x2, x3, x4, x5, x6, x7⟩
    · refine Or.inl ⟨f, h', x1, x2, ?_, x4, x5⟩
      rw [hz, hrt, x3, B_bind, if_pos rfl, B_bz0]
    · obtain ⟨d3, z3, h3, y1, y2, y3, y4, y5, y6, y7, y8⟩ := ru_closeParentheses_2_s hn hm hm40 hs r d2 z2 px_F 0 h2 x4 x5 (by have := x5.2.2.1; omega) (by omega) x2
      have F3 : B_fr E_ru h h3 := x7.trans y8
      have c1 := y5.1
      have c3 := y5.2.2.1
      have hn4 := y6.2.2.1
      obtain ⟨d4, e4, hr4⟩ := u_run_pos y2
      have hS : u_stp sg n m (true, z3) = u_A sg n m z3 := rfl
      rw [hS] at hr4
      -- a joint, and on
      have hjoint : ¬ (z3.2.2.2.1 = 0 ∧ ¬ z3.1 < m) → (∃ f h', r = .inl f ∧ f ≤ m ∧ ru_readExpression_69 (ru_readExpression_23 g) (nI x) h3 = some (0, h') ∧ h' 1 4 = nI f ∧ B_fr E_ru h h') ∨ (∃ l h', r = .inr l ∧ ru_readExpression_69 (ru_readExpression_23 g) (nI x) h3 = some (nI 1, h') ∧ h' 17 5 = nI l.length ∧ (∀ i, i < l.length → h' 19 i = uI (l.getD i (false, 0))) ∧ l.length ≤ 40 ∧ m = n ∧ B_fr E_ru h h') := by
        intro hne
        rcases ru_readJoint_s hn hm hm40 hs y5 y6 y3 hne with ⟨h4, u1, u2, u3, u4⟩ | ⟨z4, h4, u1, u2, u3, u4, u5, u6⟩
        · rw [u1] at hr4
          rcases hr4 with ⟨z2', e3, hr3⟩ | e3
          · cases e3
          · cases e3
            refine Or.inl ⟨z3.1, h4, rfl, y6.2.1, ?_, u3, F3.trans u4⟩
            unfold ru_readExpression_69
            rw [u2, B_bind, if_pos rfl, bc_0, B_bz0]
        · rw [u1] at hr4
          rcases hr4 with ⟨z2', e3, hr3⟩ | e3
          · cases e3
            have hz69 : ru_readExpression_69 (ru_readExpression_23 g) (nI x) h3 = ru_readExpression_23 g (nI (x + 1)) h4 := by
              unfold ru_readExpression_69
              rw [u2, B_bind, if_neg (show ¬ nI 1 = 0 by decide), bc_1, nI_add]
            rw [hz69]
            rcases ih d4 z4 g (x + 1) h4 (by omega) u3 u4 (by omega) (by omega) hr3 with ⟨f, h', v1, v2, v3, v4, v5⟩ | ⟨l, h', v1, v2, v3, v4, v5, v6, v7⟩
            · exact Or.inl ⟨f, h', v1, v2, v3, v4, (F3.trans u6).trans v5⟩
            · exact Or.inr ⟨l, h', v1, v2, v3, v4, v5, v6, (F3.trans u6).trans v7⟩
          · cases e3
      rw [hz, hrt, x3, B_bind, if_neg (show ¬ nI 1 = 0 by decide), hrc, y4, B_bind, c3]
      by_cases q0 : z3.2.2.2.1 = 0
      · rw [if_pos (show nI z3.2.2.2.1 = 0 by rw [q0, nI_0]), tx_next_s c1 hm hn y6.2.1, B_bind]
        by_cases qk : z3.1 < m
        · have hnx : ¬ S_nxt sg m z3.1 = -1 := by
            unfold S_nxt
            rw [if_pos qk]
            intro w
            have := hs z3.1 (by omega)
            rw [bn_eqm (by omega)] at w
            exact w
          rw [if_neg hnx]
          exact hjoint (fun w => w.2 qk)
        · have hnx : S_nxt sg m z3.1 = -1 := if_neg qk
          have hA : u_A sg n m z3 = .inr (if z3.1 = n then .inr (u_W 0 z3.2.1 z3.2.2.1).1 else .inl z3.1) := by
            unfold u_A
            rw [if_neg y3, if_pos ⟨q0, qk⟩]
          rw [hA] at hr4
          obtain ⟨h5, b1, b2, b3⟩ := ru_writeWaiting_s (b := 0) (by omega) y5.2.1 (by have := y6.1; have := y6.2.1; omega) y6.2.2.2
          have c1' := c1.us b3
          have F5 := F3.trans (b3.mono E_us_ru)
          rw [if_pos hnx, b1, B_bind]
          have ecl : tx_closes h5 = if z3.1 = n then some (nI 1, h5) else some (0, px_w h5 1 4 (nI z3.1)) := by
            have := y6.2.1
            unfold tx_closes tx_closes_18 tx_closes_23 tx_refuse
            rw [c1'.2.1, c1'.1, bc_1, bc_0, B_bz1]
            by_cases w : z3.1 = n
            · rw [if_pos (by rw [w]), if_pos w]
            · rw [if_neg (fun e => by rw [bn_eq (by omega) (by omega)] at e; exact w e), if_neg w]
              dsimp only
              rw [B_bz0, B_bind, if_pos rfl, B_bz0]
          rw [ecl]
          rcases hr4 with ⟨z2', e3, hr3⟩ | e3
          · cases e3
          · cases e3
            by_cases w : z3.1 = n
            · rw [if_pos w, if_pos w, B_bind, B_bz1]
              have l1 := (u_W_len 0 z3.2.2.1 z3.2.1).1
              have := y6.1
              have := y6.2.1
              exact Or.inr ⟨_, h5, rfl, rfl, b2.1.1, b2.1.2, by omega, by omega, F5⟩
            · rw [if_neg w, if_neg w, B_bind, B_bz0]
              exact Or.inl ⟨z3.1, _, rfl, y6.2.1, rfl, B_w_same _ _ _ _, F5.w rfl⟩
      · rw [if_neg (nI_ne0 (by omega) (by omega))]
        exact hjoint (fun w => q0 w.1)
end RUW
