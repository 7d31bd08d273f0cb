/-! Layer B: rule: what codes are worth, on both sides -/
section RVAL
variable {n m : Nat} {sg : Nat → Nat}
def u_env (p t w y n i o : Int32) : Nat → Int32 := fun c => if c = 112 then p else if c = 116 then t else if c = 119 then w else if c = 121 then y else if c = 110 then n else if c = 105 then i else o
theorem u_num_le {k : Nat} (hd : S_dg sg m k = true) : (u_num sg m k).1 ≤ 999 := by
  have := S_dg_lt hd
  unfold u_num
  cases e1 : S_dg sg m (k + 1) with
  | false =>
    simp only [Bool.false_eq_true, if_false]
    omega
  | true =>
    have := S_dg_lt e1
    simp only [if_true]
    cases e2 : S_dg sg m (k + 2) with
    | false =>
      simp only [Bool.false_eq_true, if_false]
      omega
    | true =>
      have := S_dg_lt e2
      simp only [if_true]
      omega
theorem u_W_ok (b : Nat) : ∀ (st : List Nat) (out : List uC), (∀ c, c ∈ out → u_ok c) → (∀ s, s ∈ st → s = 40 ∨ 1 ≤ u_bond s) → ∀ c, c ∈ (u_W b out st).1 → u_ok c := by
  intro st
  induction st with
  | nil => intro out h1 _ c hc; exact h1 c hc
  | cons s st ih =>
    intro out h1 h2 c hc
    change c ∈ (if s = 40 ∨ u_bond s < b then (out, s :: st) else u_W b (out ++ [(true, s)]) st).1 at hc
    by_cases q : s = 40 ∨ u_bond s < b
    · rw [if_pos q] at hc
      exact h1 c hc
    · rw [if_neg q] at hc
      refine ih _ (fun c hc => ?_) (fun t ht => h2 t (List.mem_cons_of_mem _ ht)) c hc
      rcases List.mem_append.mp hc with e | e
      · exact h1 c e
      · rw [List.mem_singleton] at e
        rw [e]
        rcases h2 s (List.mem_cons_self ..) with w | w
        · exact absurd (Or.inl w) q
        · exact Or.inr ⟨rfl, Or.inr w⟩
theorem u_run_ok {l : List uC} : ∀ (d : Nat) (z : Bool × uS), u_run sg n m d z = some (.inr l) → (∀ c, c ∈ z.2.2.1 → u_ok c) → (∀ s, s ∈ z.2.2.2.1 → s = 40 ∨ 1 ≤ u_bond s) → ∀ c, c ∈ l → u_ok c := by
  intro d
  induction d with
  | zero => intro z h; cases h
  | succ d ih =>
    intro z h h1 h2
    obtain ⟨d2, e2, hr⟩ := u_run_pos h
    obtain rfl : d = d2 := by omega
    obtain ⟨b, k, out, st, nst, cmp⟩ := z
    dsimp only at h1 h2
    have happ : ∀ c, u_ok c → ∀ x, x ∈ out ++ [c] → u_ok x := fun c hc x hx => by
      rcases List.mem_append.mp hx with e | e
      · exact h1 x e
      · rw [List.mem_singleton] at e
        rw [e]
        exact hc
    cases b with
    | false =>
      have hS : u_stp sg n m (false, k, out, st, nst, cmp) = u_E sg m (k, out, st, nst, cmp) := rfl
      rw [hS] at hr
      unfold u_E at hr
      dsimp only at hr
      by_cases q1 : u_nx sg m k = 45
      · rw [if_pos q1] at hr
        rcases hr with ⟨z2, e, hr⟩ | e
        · cases e
          exact ih _ hr h1 (fun s hs => by
            rcases List.mem_cons.mp hs with e | e
            · rw [e]
              exact Or.inr (by decide)
            · exact h2 s e)
        · cases e
      rw [if_neg q1] at hr
      by_cases q2 : nst < 4 ∧ u_nx sg m k = 40
      · rw [if_pos q2] at hr
        rcases hr with ⟨z2, e, hr⟩ | e
        · cases e
          exact ih _ hr h1 (fun s hs => by
            rcases List.mem_cons.mp hs with e | e
            · exact Or.inl e
            · exact h2 s e)
        · cases e
      rw [if_neg q2] at hr
      by_cases q3 : S_dg sg m k = true
      · rw [if_pos q3] at hr
        rcases hr with ⟨z2, e, hr⟩ | e
        · cases e
          exact ih _ hr (happ _ (Or.inl ⟨rfl, u_num_le q3⟩)) h2
        · cases e
      rw [if_neg q3] at hr
      by_cases q4 : u_let (u_nx sg m k) = true
      · rw [if_pos q4] at hr
        rcases hr with ⟨z2, e, hr⟩ | e
        · cases e
          exact ih _ hr (happ _ (Or.inr ⟨rfl, Or.inl q4⟩)) h2
        · cases e
      rw [if_neg q4] at hr
      rcases hr with ⟨z2, e, hr⟩ | e
      · cases e
      · cases e
    | true =>
      have hS : u_stp sg n m (true, k, out, st, nst, cmp) = u_A sg n m (k, out, st, nst, cmp) := rfl
      rw [hS] at hr
      unfold u_A at hr
      dsimp only at hr
      by_cases q1 : 0 < nst ∧ u_nx sg m k = 41
      · rw [if_pos q1] at hr
        rcases hr with ⟨z2, e, hr⟩ | e
        · cases e
          exact ih _ hr (u_W_ok 1 st out h1 h2) (fun s hs => h2 s ((u_W_len 1 st out).2.2 s (List.mem_of_mem_tail hs)))
        · cases e
      rw [if_neg q1] at hr
      by_cases q2 : nst = 0 ∧ ¬ k < m
      · rw [if_pos q2] at hr
        rcases hr with ⟨z2, e, hr⟩ | e
        · cases e
        · by_cases w : k = n
          · rw [if_pos w] at e
            cases e
            exact u_W_ok 0 st out h1 h2
          · rw [if_neg w] at e
            cases e
      rw [if_neg q2] at hr
      by_cases q3 : u_bond (u_nx sg m k) = 0 ∨ (u_bond (u_nx sg m k) = 1 ∧ cmp nst = true)
      · rw [if_pos q3] at hr
        rcases hr with ⟨z2, e, hr⟩ | e
        · cases e
        · cases e
      rw [if_neg q3] at hr
      rcases hr with ⟨z2, e, hr⟩ | e
      · cases e
        exact ih _ hr (u_W_ok _ st out h1 h2) (fun s hs => by
          rcases List.mem_cons.mp hs with e | e
          · rw [e]
            exact Or.inr (by omega)
          · exact h2 s ((u_W_len _ st out).2.2 s e))
      · cases e
theorem ru_fact_s {h : pH} {e : Nat → Int32} {c : Nat} (hc : u_let c = true) (e1 : h 17 8 = e 112) (e2 : h 17 9 = e 116) (e3 : h 17 10 = e 119) (e4 : h 17 11 = e 121) (e5 : h 17 12 = e 110) (e6 : h 17 13 = e 105) (e7 : h 17 14 = e 111) : ru_fact (nI c) h = some (e c, h) := by
  unfold u_let at hc
  simp at hc
  unfold ru_fact
  rw [bc_105, bc_106, bc_107, bc_108, bc_109, bc_110, bc_111, bc_112, bc_113, bc_114, bc_115, bc_116, bc_117, bc_118, bc_119, bc_120, bc_121, e1, e2, e3, e4, e5, e6, e7]
  rcases hc with rfl | rfl | rfl | rfl | rfl | rfl | rfl <;> rfl
theorem ru_join_s {h : pH} {c : Nat} (a b : Int32) (hc : 1 ≤ u_bond c) (h4 : c ≠ 256) : ru_join (nI c) a b h = some (u_J c a b, h) := by
  unfold ru_join ru_join_70 ru_join_92 ru_join_81 ru_join_116
  rw [bc_42, bc_43, bc_45, bc_60, bc_61, bc_62, bc_0, bc_1]
  have hcs : c = 42 ∨ c = 43 ∨ c = 45 ∨ c = 47 ∨ c = 60 ∨ c = 61 ∨ c = 62 := by
    unfold u_bond at hc
    repeat' split at hc
    all_goals omega
  rcases hcs with rfl | rfl | rfl | rfl | rfl | rfl | rfl
  · rfl
  · rfl
  · rfl
  · rw [if_neg (by decide), if_neg (by decide), if_neg (by decide), if_neg (by decide), if_neg (by decide), if_neg (by decide)]
    show _ = some ((if b = 0 then 0 else a / b), h)
    by_cases q : b = 0
    · rw [if_pos q, if_pos q]
    · rw [if_neg q, if_neg q, if_neg q]
  · rw [if_neg (by decide), if_neg (by decide), if_neg (by decide), if_pos rfl]
    show _ = some ((if a < b then nI 1 else 0), h)
    by_cases q : b ≤ a
    · rw [if_pos q, if_neg (Int32.not_lt.mpr q)]
    · rw [if_neg q, if_pos (Int32.not_le.mp q)]
  · rw [if_neg (by decide), if_neg (by decide), if_neg (by decide), if_neg (by decide), if_pos rfl]
    show _ = some ((if a = b then nI 1 else 0), h)
    by_cases q : a = b
    · rw [if_pos q, if_pos q]
    · rw [if_neg q, if_neg q]
  · rw [if_neg (by decide), if_neg (by decide), if_neg (by decide), if_neg (by decide), if_neg (by decide), if_pos rfl]
    show _ = some ((if b < a then nI 1 else 0), h)
    by_cases q : a ≤ b
    · rw [if_pos q, if_neg (Int32.not_lt.mpr q)]
    · rw [if_neg q, if_pos (Int32.not_le.mp q)]
/-- what is worked out so far -/
def C_ev (h : pH) (s : List Int32) : Prop := ∀ i, i < s.length → h 20 i = s.reverse.getD i 0
theorem C_ev.push {h : pH} {s : List Int32} (C : C_ev h s) (x : Int32) : C_ev (px_w h 20 s.length x) (x :: s) := fun i hi => by
  rw [List.reverse_cons, u_getD_app _ _ _ (by rw [← List.reverse_cons, List.length_reverse]; exact hi), B_w_at, List.length_reverse]
  by_cases q : i = s.length
  · rw [if_pos q, if_pos q]
  · rw [if_neg q, if_neg q]
    rw [List.length_cons] at hi
    exact C i (by omega)
theorem C_ev.top {h : pH} {s : List Int32} {x : Int32} (C : C_ev h (x :: s)) : h 20 s.length = x := by
  rw [C s.length (by rw [List.length_cons]; omega), List.reverse_cons, u_getD_app _ _ _ (by rw [← List.reverse_cons, List.length_reverse, List.length_cons]; omega), List.length_reverse, if_pos rfl]
theorem C_ev.pop {h : pH} {s : List Int32} {x : Int32} (C : C_ev h (x :: s)) : C_ev h s := fun i hi => by
  rw [C i (by rw [List.length_cons]; omega), List.reverse_cons, u_getD_app _ _ _ (by rw [← List.reverse_cons, List.length_reverse, List.length_cons]; omega), List.length_reverse, if_neg (by omega)]
def E_20 : Nat → Nat → Bool := fun a _ => Nat.beq a 20
theorem ru_pressure_40_s {e : Nat → Int32} {l : List uC} (hl : l.length ≤ 40) (hok : ∀ c, c ∈ l → u_ok c) (w : Int32) : ∀ (l2 l1 : List uC) (s : List Int32) (g : Nat) (h : pH), l = l1 ++ l2 → h 17 4 = nI l.length → (∀ i, i < l.length → h 18 i = uI (l.getD i (false, 0))) → (h 17 8 = e 112 ∧ h 17 9 = e 116 ∧ h 17 10 = e 119 ∧ h 17 11 = e 121 ∧ h 17 12 = e 110 ∧ h 17 13 = e 105 ∧ h 17 14 = e 111) → C_ev h s → s.length + l2.length ≤ 40 → l2.length < g → u_ev e l2 s = some [w] → ∃ h', ru_pressure_40 g (nI s.length) (nI l1.length) h = some (w, h') ∧ B_fr E_20 h h' := by
  intro l2
  induction l2 with
  | nil =>
    intro l1 s g h hll e4 e18 ev C hs hg hu
    obtain ⟨g, rfl⟩ : ∃ n', g = n' + 1 := ⟨g - 1, by omega⟩
    rw [List.append_nil] at hll
    cases hu
    refine ⟨h, ?_, B_fr.refl _ _⟩
    show (if h 17 4 ≤ nI l1.length then _ else _) = _
    rw [hll] at hl
    rw [e4, hll, if_pos (nI_le (Nat.le_refl _) (by omega)), bc_0, wz_20, B_bind]
    have := C.top
    change h 20 0 = w at this
    rw [this]
  | cons c l2 ih =>
    intro l1 s g h hll e4 e18 ev C hs hg hu
    obtain ⟨g, rfl⟩ : ∃ n', g = n' + 1 := ⟨g - 1, by omega⟩
    rw [List.length_cons] at hs hg
    have hlen : l.length = l1.length + (l2.length + 1) := by rw [hll, List.length_append, List.length_cons]
    have hc : u_ok c := hok c (by rw [hll]; exact List.mem_append_right _ (List.mem_cons_self ..))
    have hget : l.getD l1.length (false, 0) = c := by
      rw [hll, List.getD_eq_getElem?_getD, List.getElem?_append_right (Nat.le_refl _), Nat.sub_self]
      rfl
    have e18' : h 18 l1.length = uI c := by rw [e18 _ (by omega), hget]
    have hl2 : l = (l1 ++ [c]) ++ l2 := by rw [hll, List.append_assoc]; rfl
    have hl1 : (l1 ++ [c]).length = l1.length + 1 := by rw [List.length_append, List.length_singleton]
    have hz : ru_pressure_40 (g + 1) (nI s.length) (nI l1.length) h = if 0 ≤ uI c then ru_pressure_74 (ru_pressure_40 g) (nI s.length) (nI l1.length) (uI c) h else px_bind (ru_isLetter (-(uI c)) h) fun z5 h6 => if z5 = 0 then (if (-(uI c)) = nI 256 then px_bind (wu_at 20 (nI s.length - nI 1) h6) fun z7 h8 => px_bind (wu_put 20 (nI s.length - nI 1) (-z7) h8) fun _ h10 => ru_pressure_181 (ru_pressure_40 g) (nI s.length) (nI l1.length) h10 else px_bind (wu_at 20 ((nI s.length + -1) - nI 1) h6) fun z11 h12 => px_bind (wu_at 20 (nI s.length + -1) h12) fun z13 h14 => px_bind (ru_join (-(uI c)) z11 z13 h14) fun z15 h16 => px_bind (wu_put 20 ((nI s.length + -1) - nI 1) z15 h16) fun _ h18 => ru_pressure_181 (ru_pressure_40 g) (nI s.length + -1) (nI l1.length) h18) else ru_pressure_74 (ru_pressure_40 g) (nI s.length) (nI l1.length) (uI c) h6 := by
      show (if h 17 4 ≤ nI l1.length then _ else _) = _
      rw [e4, if_neg (nI_ge (by omega) (by omega)), wa_18 (by omega), B_bind, e18', bc_256, bc_1, bc_m1]
    -- a value is put on top
    have hput : ∀ x : Int32, u_st e c s = some (x :: s) → ∃ h', px_bind (wu_put 20 (nI s.length) x h) (fun _ h2 => ru_pressure_181 (ru_pressure_40 g) (nI s.length + px_c 1) (nI l1.length) h2) = some (w, h') ∧ B_fr E_20 h h' := fun x hx => by
      have hu2 : u_ev e l2 (x :: s) = some [w] := by
        change (match u_st e c s with | none => none | some s => u_ev e l2 s) = _ at hu
        rw [hx] at hu
        exact hu
      have F0 : B_fr E_20 h (px_w h 20 s.length x) := (B_fr.refl _ h).w rfl
      obtain ⟨h', a1, a2⟩ := ih (l1 ++ [c]) (x :: s) g (px_w h 20 s.length x) hl2 (by rw [F0 17 4 rfl, e4]) (fun i hi => by rw [F0 18 i rfl]; exact e18 i hi) (by rw [F0 17 8 rfl, F0 17 9 rfl, F0 17 10 rfl, F0 17 11 rfl, F0 17 12 rfl, F0 17 13 rfl, F0 17 14 rfl]; exact ev) (C.push x) (by rw [List.length_cons]; omega) (by omega) hu2
      refine ⟨h', ?_, F0.trans a2⟩
      rw [wp_20 (by omega), B_bind]
      unfold ru_pressure_181
      rw [bc_1, nI_add, nI_add, ← hl1]
      exact a1
    obtain ⟨cb, cv⟩ := c
    rcases hc with ⟨c1, c2⟩ | ⟨c1, c2⟩
    · -- a number
      dsimp only at c1 c2
      subst c1
      obtain ⟨h', a1, a2⟩ := hput (nI cv) rfl
      refine ⟨h', ?_, a2⟩
      have hu0 : uI (false, cv) = nI cv := rfl
      rw [hz, hu0, if_pos (nI_pos' (by omega))]
      unfold ru_pressure_74 ru_pressure_97
      rw [if_neg (nI_pos (by omega))]
      exact a1
    · dsimp only at c1 c2
      subst c1
      have hcv : 1 ≤ cv ∧ cv < 257 := by
        rcases c2 with c2 | c2
        · unfold u_let at c2
          simp at c2
          omega
        · have h1 := u_bond_ne (Or.inr c2)
          refine ⟨?_, h1⟩
          by_cases q : cv = 0
          · rw [q] at c2
            change 1 ≤ 0 at c2
            omega
          · omega
      have hu0 : uI (true, cv) = -(nI cv) := rfl
      have hd : ∀ x, x < 257 → 1 ≤ x → ¬ (0 ≤ -(nI x)) ∧ (-(nI x) < 0) := by decide +kernel
      obtain ⟨hd1, hd2⟩ := hd cv hcv.2 hcv.1
      rw [hz, hu0, if_neg hd1, Int32.neg_neg, ru_isLetter_n (by omega), B_bind]
      cases hlt : u_let cv with
      | true =>
        rw [if_neg (show ¬ B_01 true = 0 by decide)]
        have hx : u_st e (true, cv) s = some (e cv :: s) := by
          unfold u_st
          rw [if_neg (by simp), if_pos hlt]
        obtain ⟨h', a1, a2⟩ := hput (e cv) hx
        refine ⟨h', ?_, a2⟩
        unfold ru_pressure_74 ru_pressure_97
        obtain ⟨v1, v2, v3, v4, v5, v6, v7⟩ := ev
        rw [if_pos hd2, Int32.neg_neg, ru_fact_s hlt v1 v2 v3 v4 v5 v6 v7, B_bind]
        exact a1
      | false =>
        rw [if_pos (show B_01 false = 0 from rfl)]
        have c3 : 1 ≤ u_bond cv := by
          rcases c2 with c2 | c2
          · rw [hlt] at c2
            cases c2
          · exact c2
        change (match u_st e (true, cv) s with | none => none | some s => u_ev e l2 s) = _ at hu
        unfold u_st at hu
        rw [if_neg (by simp), if_neg (by rw [hlt]; simp)] at hu
        by_cases q : cv = 256
        · rw [if_pos q] at hu
          rw [if_pos (by rw [q])]
          cases s with
          | nil => cases hu
          | cons a s =>
            dsimp only at hu
            rw [List.length_cons] at hs ⊢
            have F0 : B_fr E_20 h (px_w h 20 s.length (-a)) := (B_fr.refl _ h).w rfl
            obtain ⟨h', a1, a2⟩ := ih (l1 ++ [(true, cv)]) (-a :: s) g (px_w h 20 s.length (-a)) hl2 (by rw [F0 17 4 rfl, e4]) (fun i hi => by rw [F0 18 i rfl]; exact e18 i hi) (by rw [F0 17 8 rfl, F0 17 9 rfl, F0 17 10 rfl, F0 17 11 rfl, F0 17 12 rfl, F0 17 13 rfl, F0 17 14 rfl]; exact ev) (C.pop.push (-a)) (by rw [List.length_cons]; omega) (by omega) hu
            refine ⟨h', ?_, F0.trans a2⟩
            rw [pk_sub (by omega), Nat.add_sub_cancel, wa_20 (by omega), B_bind, C.top, wp_20 (by omega), B_bind]
            unfold ru_pressure_181
            rw [bc_1, nI_add, ← hl1]
            exact a1
        · rw [if_neg q] at hu
          rw [if_neg (fun w => q ((nI_eq (by omega) (by omega)).mp w))]
          cases s with
          | nil => cases hu
          | cons b s =>
            cases s with
            | nil => cases hu
            | cons a s =>
              dsimp only at hu
              rw [List.length_cons, List.length_cons] at hs ⊢
              have F0 : B_fr E_20 h (px_w h 20 s.length (u_J cv a b)) := (B_fr.refl _ h).w rfl
              obtain ⟨h', a1, a2⟩ := ih (l1 ++ [(true, cv)]) (u_J cv a b :: s) g (px_w h 20 s.length (u_J cv a b)) hl2 (by rw [F0 17 4 rfl, e4]) (fun i hi => by rw [F0 18 i rfl]; exact e18 i hi) (by rw [F0 17 8 rfl, F0 17 9 rfl, F0 17 10 rfl, F0 17 11 rfl, F0 17 12 rfl, F0 17 13 rfl, F0 17 14 rfl]; exact ev) (C.pop.pop.push _) (by rw [List.length_cons]; omega) (by omega) hu
              refine ⟨h', ?_, F0.trans a2⟩
              have em : nI (s.length + 1 + 1) + (-1 : Int32) = nI (s.length + 1) := by
                have : (-1 : Int32) = - nI 1 := rfl
                rw [this, ← Int32.sub_eq_add_neg, pk_sub (by omega), Nat.add_sub_cancel]
              rw [em, pk_sub (by omega), Nat.add_sub_cancel, wa_20 (by omega), B_bind, wa_20 (by omega), B_bind, C.pop.top]
              have ct := C.top
              rw [List.length_cons] at ct
              rw [ct, ru_join_s a b c3 q, B_bind, wp_20 (by omega), B_bind]
              unfold ru_pressure_181
              rw [bc_1, nI_add, ← hl1]
              exact a1
theorem u_E_c {l : List uC} {v : (Nat → Int32) → Int32} {f : Nat → Int32} (hv : u_val l v) (hl : l.length ≤ 40) (h0 : 0 < l.length) (hok : ∀ c, c ∈ l → u_ok c) (hf : ∀ i, i < l.length → f i = uI (l.getD i (false, 0))) : E_c (nI l.length) f (fun p t w y n i o => v (u_env p t w y n i o)) := fun h h1 h2 t w y => by
  generalize hH : px_w (px_w (px_w h 17 9 t) 17 10 w) 17 11 y = h3
  have F0 : B_fr E_fc h h3 := by
    rw [← hH]
    exact (((B_fr.refl _ h).w rfl).w rfl).w rfl
  have e9 : h3 17 9 = t ∧ h3 17 10 = w ∧ h3 17 11 = y := by
    rw [← hH]
    exact ⟨by rw [B_w_at, if_neg (by decide), B_w_at, if_neg (by decide), B_w_same], by rw [B_w_at, if_neg (by decide), B_w_same], B_w_same _ _ _ _⟩
  obtain ⟨h', a1, a2⟩ := ru_pressure_40_s (e := u_env (h 17 8) t w y (h 17 12) (h 17 13) (h 17 14)) hl hok (v (u_env (h 17 8) t w y (h 17 12) (h 17 13) (h 17 14))) l [] [] px_F h3 rfl (by rw [F0 17 4 rfl, h1]) (fun i hi => by rw [F0.row 18 (fun _ => rfl), h2]; exact hf i hi) ⟨F0 17 8 rfl, e9.1, e9.2.1, e9.2.2, F0 17 12 rfl, F0 17 13 rfl, F0 17 14 rfl⟩ (fun i hi => absurd hi (by simp)) (by simpa using hl) (px_F_lt (by omega)) (hv _ [])
  refine ⟨h', ?_, F0.trans (a2.mono (fun a k e => by
    have := Nat.eq_of_beq_eq_true e
    subst this
    rfl))⟩
  unfold ru_pressure
  dsimp only
  rw [hH, F0 17 4 rfl, h1, if_neg (nI_ne0 (by omega) (by omega)), bc_0, ← nI_0]
  exact a1
theorem u_E_m {v : (Nat → Int32) → Int32} {f : Nat → Int32} {N : Nat} (hN : N ≤ 40) (h0 : 0 < N) (hf : ∀ j, j < N → f j = B_byte (sg j)) (hc : ∀ h r, M_r h r N 0 sg none → ∃ h' k2, mo_heldT (nI 0) h = some (v (e_h h), h') ∧ M_r h' r N k2 sg none ∧ B_fr E_mx h h') : E_m (nI N) f (fun p t w y n i o => v (u_env p t w y n i o)) := fun h a t h1 h2 ht hl h10 k y n h57 => by
  have hpa : ∀ x, x < 52 → px_ok 0 a (nI x) = true := fun x hx => px_ok_nI ht (by rw [hl]; exact hx) (by rw [hl]; decide)
  have hap : a ≠ 64 := fun e => by
    rw [e] at hl
    cases hl
  have hap2 : a ≠ 51 := fun e => by
    rw [e] at ht
    cases ht
  have e32 : px_c 32 = nI 32 := bc_32
  have e12 : px_c 12 = nI 12 := bc_12
  generalize hw : (if h 57 t = -1 then (0 : Int32) else if B_bit n (B_n (h 57 t)) = true then nI 1 else 0) = ab
  generalize hH : px_w (px_w (px_w (px_w (px_w (px_w (px_w h 64 0 (h 56 t)) 64 1 k) 64 2 (h a (12 + t))) 64 3 y) 64 4 (B_pc n)) 64 5 (h a (32 + t))) 64 6 ab = h7
  have hcell : ∀ b, b ≠ 64 → h7 b = h b := fun b hb => by
    rw [← hH, B_w_cell _ _ _ hb, B_w_cell _ _ _ hb, B_w_cell _ _ _ hb, B_w_cell _ _ _ hb, B_w_cell _ _ _ hb, B_w_cell _ _ _ hb, B_w_cell _ _ _ hb]
  have hrow : h7 64 0 = h 56 t ∧ h7 64 1 = k ∧ h7 64 2 = h a (12 + t) ∧ h7 64 3 = y ∧ h7 64 4 = B_pc n ∧ h7 64 5 = h a (32 + t) ∧ h7 64 6 = ab := by
    rw [← hH]
    refine ⟨?_, ?_, ?_, ?_, ?_, ?_, ?_⟩
    · rw [B_w_at, if_neg (by decide), B_w_at, if_neg (by decide), B_w_at, if_neg (by decide), B_w_at, if_neg (by decide), B_w_at, if_neg (by decide), B_w_at, if_neg (by decide), B_w_same]
    · rw [B_w_at, if_neg (by decide), B_w_at, if_neg (by decide), B_w_at, if_neg (by decide), B_w_at, if_neg (by decide), B_w_at, if_neg (by decide), B_w_same]
    · rw [B_w_at, if_neg (by decide), B_w_at, if_neg (by decide), B_w_at, if_neg (by decide), B_w_at, if_neg (by decide), B_w_same]
    · rw [B_w_at, if_neg (by decide), B_w_at, if_neg (by decide), B_w_at, if_neg (by decide), B_w_same]
    · rw [B_w_at, if_neg (by decide), B_w_at, if_neg (by decide), B_w_same]
    · rw [B_w_at, if_neg (by decide), B_w_same]
    · rw [B_w_same]
  generalize hG : px_w (px_w (px_w (px_w (px_w (px_w h7 51 15 (nI 63)) 51 16 (nI N)) 51 17 (nI 40)) 51 18 0) 51 19 (-1)) 51 27 (nI 1) = h8
  have F8 : B_fr E_fm h h8 := by
    rw [← hG, ← hH]
    exact (((((((((((((B_fr.refl _ h).w rfl).w rfl).w rfl).w rfl).w rfl).w rfl).w rfl).w rfl).w rfl).w rfl).w rfl).w rfl).w rfl
  have c8 : ∀ b, b ≠ 51 → h8 b = h7 b := fun b hb => by
    rw [← hG, B_w_cell _ _ _ hb, B_w_cell _ _ _ hb, B_w_cell _ _ _ hb, B_w_cell _ _ _ hb, B_w_cell _ _ _ hb, B_w_cell _ _ _ hb]
  have M8 : M_r h8 63 N 0 sg none := by
    refine ⟨Or.inr rfl, ?_, ⟨N, 40, ?_, ?_, (Nat.min_eq_left hN).symm, by omega, by decide⟩, ?_, ?_, fun j hj => ?_⟩
    · rw [← hG, B_w_at, if_neg (by decide), B_w_at, if_neg (by decide), B_w_at, if_neg (by decide), B_w_at, if_neg (by decide), B_w_at, if_neg (by decide), B_w_same]
    · rw [← hG, B_w_at, if_neg (by decide), B_w_at, if_neg (by decide), B_w_at, if_neg (by decide), B_w_at, if_neg (by decide), B_w_same]
    · rw [← hG, B_w_at, if_neg (by decide), B_w_at, if_neg (by decide), B_w_at, if_neg (by decide), B_w_same]
    · rw [← hG, B_w_at, if_neg (by decide), B_w_at, if_neg (by decide), B_w_same, nI_0]
    · rw [← hG, B_w_at, if_neg (by decide), B_w_same]
      rfl
    · rw [F8.row 63 (fun _ => rfl), h2]
      exact hf j hj
  obtain ⟨h', k2, a1, a2, a3⟩ := hc h8 63 M8
  have he : e_h h8 = u_env (h 56 t) k (h a (12 + t)) y (B_pc n) (h a (32 + t)) ab := by
    obtain ⟨r0, r1, r2, r3, r4, r5, r6⟩ := hrow
    have e27 : ¬ h8 51 27 = 0 := by
      rw [← hG, B_w_same]
      decide
    funext c
    unfold e_h u_env u_ix
    rw [if_neg e27, c8 64 (by decide)]
    by_cases q1 : c = 112
    · rw [if_pos q1, if_pos q1, r0]
    rw [if_neg q1, if_neg q1]
    by_cases q2 : c = 116
    · rw [if_pos q2, if_pos q2, r1]
    rw [if_neg q2, if_neg q2]
    by_cases q3 : c = 119
    · rw [if_pos q3, if_pos q3, r2]
    rw [if_neg q3, if_neg q3]
    by_cases q4 : c = 121
    · rw [if_pos q4, if_pos q4, r3]
    rw [if_neg q4, if_neg q4]
    by_cases q5 : c = 110
    · rw [if_pos q5, if_pos q5, r4]
    rw [if_neg q5, if_neg q5]
    by_cases q6 : c = 105
    · rw [if_pos q6, if_pos q6, r5]
    rw [if_neg q6, if_neg q6, r6]
  refine ⟨px_w h' 51 27 0, ?_, (F8.trans (a3.mono (fun a k e => ?_))).w rfl⟩
  · -- the asked, one by one
    have h115 : mo_pressureOf_115 ab (nI 6) (px_w (px_w (px_w (px_w (px_w (px_w h 64 0 (h 56 t)) 64 1 k) 64 2 (h a (12 + t))) 64 3 y) 64 4 (B_pc n)) 64 5 (h a (32 + t))) = some (v (u_env (h 56 t) k (h a (12 + t)) y (B_pc n) (h a (32 + t)) ab), px_w h' 51 27 0) := by
      unfold mo_pressureOf_115
      rw [po_64 (by omega), B_ift, nI_clamp (by omega)]
      dsimp only
      rw [hH]
      unfold mo_begin mo_begin_10 mo_begin_20
      rw [show (Nat.blt 63 px_N && Nat.beq (px_tag 63) 1) = true by decide, B_ift, bc_40, bc_0, bc_m1, bc_1]
      dsimp only
      rw [B_bind, show (decide (nI 1 = 0) || decide (nI 1 = 1)) = true by decide, B_ift, hcell 51 (by decide), h1, hG]
      unfold mo_pressureOf_135
      rw [bc_0, ← nI_0, a1, B_bind, he, nI_0]
      rfl
    have h80 : mo_pressureOf_80 (nI t) n (px_w (px_w (px_w (px_w (px_w (px_w h 64 0 (h 56 t)) 64 1 k) 64 2 (h a (12 + t))) 64 3 y) 64 4 (B_pc n)) 64 5 (h a (32 + t))) = some (v (u_env (h 56 t) k (h a (12 + t)) y (B_pc n) (h a (32 + t)) ab), px_w h' 51 27 0) := by
      rw [← h115]
      unfold mo_pressureOf_80 mo_pressureOf_114
      rw [po_57 h10, B_ift, nI_clamp (by omega), B_w_cell _ _ _ (show (57 : Nat) ≠ 64 by decide), B_w_cell _ _ _ (show (57 : Nat) ≠ 64 by decide), B_w_cell _ _ _ (show (57 : Nat) ≠ 64 by decide), B_w_cell _ _ _ (show (57 : Nat) ≠ 64 by decide), B_w_cell _ _ _ (show (57 : Nat) ≠ 64 by decide), B_w_cell _ _ _ (show (57 : Nat) ≠ 64 by decide), bc_m1, bc_0, bc_6, bc_1]
      rw [← hw]
      rcases h57 with e | ⟨x, hx, e⟩
      · rw [if_pos e, if_pos e]
      · have hne : ¬ h 57 t = -1 := fun w => by
          rw [e, bn_eqm (by omega)] at w
          exact w
        rw [if_neg hne, if_neg hne, B_ift, e, mo_has_eq n hx, B_bind, B_n_nI (by omega)]
        by_cases q : B_bit n x = true
        · rw [if_pos q, if_pos q, if_neg (by decide)]
        · rw [if_neg q, if_neg q, if_pos rfl]
    unfold mo_pressureOf mo_pressureOf_37 mo_pressureOf_57
    rw [h1, if_neg (nI_ne0 h0 (by omega)), po_56 h10, B_ift, bc_0, pz_64, B_ift, nI_clamp (by omega), bc_1, bc_2, bc_3, bc_4, bc_5, e12, e32, nI_add, nI_add]
    dsimp only
    rw [po_64 (by omega), B_ift, hpa _ (by omega), B_ift, po_64 (by omega), B_ift, po_64 (by omega), B_ift, jn_bitCount_eq, B_bind, po_64 (by omega), B_ift, hpa _ (by omega), B_ift, po_64 (by omega), B_ift]
    simp only [nI_clamp (show 12 + t < 2 ^ 31 by omega), nI_clamp (show 32 + t < 2 ^ 31 by omega), nI_clamp (show 1 < 2 ^ 31 by decide), nI_clamp (show 2 < 2 ^ 31 by decide), nI_clamp (show 3 < 2 ^ 31 by decide), nI_clamp (show 4 < 2 ^ 31 by decide), nI_clamp (show 5 < 2 ^ 31 by decide), B_cl0, B_w_cell _ _ _ hap]
    exact h80
  · unfold E_mx at e
    split at e
    · have : k = 18 ∨ k = 19 := by simpa using e
      rcases this with rfl | rfl <;> rfl
    · cases e
end RVAL
