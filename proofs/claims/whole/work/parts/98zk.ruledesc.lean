/-! Layer B: rule: the descent, its four parts -/
section RDESC
variable {n m : Nat} {sg : Nat → Nat}
theorem u_bond_3 {c : Nat} : (u_bond c = 3) = (c = 42 ∨ c = 47) := by
  refine propext ⟨fun h => ?_, fun h => by rcases h with rfl | rfl <;> rfl⟩
  unfold u_bond at h
  repeat' split at h
  all_goals omega
theorem u_bond_2 {c : Nat} : (u_bond c = 2) = (c = 43 ∨ c = 45) := by
  refine propext ⟨fun h => ?_, fun h => by rcases h with rfl | rfl <;> rfl⟩
  unfold u_bond at h
  repeat' split at h
  all_goals omega
theorem u_bond_1 {c : Nat} : (u_bond c = 1) = (c = 60 ∨ c = 61 ∨ c = 62) := by
  refine propext ⟨fun h => ?_, fun h => by rcases h with rfl | rfl | rfl <;> rfl⟩
  unfold u_bond at h
  repeat' split at h
  all_goals omega
theorem u_nxt {k z : Nat} (hs : ∀ j, j < m → sg j < 256) (hz : z < 256) (hz0 : z ≠ 0) : (S_nxt sg m k = nI z) = (u_nx sg m k = z) := by
  rw [mr_nxt hs hz, u_nx_eq hz0]
theorem u_product (hm : m ≤ 40) (hs : ∀ j, j < m → sg j < 256) {d deep k : Nat} (hk : k ≤ m) (hU : ∀ k2, k ≤ k2 → k2 ≤ m → u_4 sg n m (u_call d 204 deep) deep k2) : u_3 sg n m (u_call (d + 1) 202 deep) deep k := by
  refine u_with hm hs (u_call d 204 deep) (u_call (d + 1) 202 deep) (fun g x h => mo_product_6 (mo_exprG d) g (nI deep) x h) deep 3 4 k (fun _ _ => True) (fun _ _ => True) (Or.inr rfl) (by omega) (fun _ _ _ => trivial) (fun k _ _ => u_bond_nx hs k) (fun g x h r k M hk hb => ?_) (fun g x h r k M hk hb => ?_) (fun g x h r k f M hf => ?_) (fun h => rfl) hk hU
  · rw [u_bond_3] at hb
    have hh := mr_here hm hs (by omega) M
    show px_bind (mo_fine h) _ = _
    rw [mr_fine0 M, B_bind, if_neg (by decide), hh, B_bind, bc_42, if_neg (by rw [u_nxt hs (by omega) (by omega)]; omega), hh, B_bind, bc_47, if_neg (by rw [u_nxt hs (by omega) (by omega)]; omega)]
    rfl
  · rw [u_bond_3] at hb
    have hh := mr_here hm hs (by omega) M
    have h45 : ∀ s0 : Int32, mo_product_45 (mo_exprG d) (mo_product_6 (mo_exprG d) g) (nI deep) x s0 h = px_bind (u_call d 204 deep (px_w h 51 18 (nI (k + 1)))) fun z2 h3 => if s0 = 0 then (if z2 = 0 then mo_product_6 (mo_exprG d) g (nI deep) 0 h3 else mo_product_6 (mo_exprG d) g (nI deep) (x / z2) h3) else mo_product_6 (mo_exprG d) g (nI deep) (x * z2) h3 := fun s0 => by
      unfold mo_product_45
      rw [M.2.2.2.1, bc_1, nI_add, bc_0]
      refine congrArg (px_bind _) (funext fun z2 => funext fun h3 => ?_)
      by_cases q : z2 = 0
      · simp only [if_pos q]
        rfl
      · simp only [if_neg q]
        rfl
    have h31 : mo_product_31 (mo_exprG d) (mo_product_6 (mo_exprG d) g) (nI deep) x h = px_bind (u_call d 204 deep (px_w h 51 18 (nI (k + 1)))) fun z h3 => mo_product_6 (mo_exprG d) g (nI deep) (u_J (u_nx sg m k) x z) h3 := by
      unfold mo_product_31
      rw [hh, B_bind, bc_42, bc_1, bc_0]
      rcases hb with hb | hb
      · rw [if_pos (by rw [u_nxt hs (by omega) (by omega)]; omega), h45, hb]
        refine congrArg (px_bind _) (funext fun z2 => funext fun h3 => ?_)
        rw [if_neg (by decide)]
        rfl
      · rw [if_neg (by rw [u_nxt hs (by omega) (by omega)]; omega), h45, hb]
        refine congrArg (px_bind _) (funext fun z2 => funext fun h3 => ?_)
        rw [if_pos rfl]
        show _ = mo_product_6 (mo_exprG d) g (nI deep) (if z2 = 0 then 0 else x / z2) h3
        by_cases q : z2 = 0
        · rw [if_pos q, if_pos q]
        · rw [if_neg q, if_neg q]
    show px_bind (mo_fine h) _ = _
    rw [mr_fine0 M, B_bind, if_neg (by decide), hh, B_bind, bc_42]
    rcases hb with hb | hb
    · rw [if_pos (by rw [u_nxt hs (by omega) (by omega)]; omega), h31]
    · rw [if_neg (by rw [u_nxt hs (by omega) (by omega)]; omega), hh, B_bind, bc_47, if_pos (by rw [u_nxt hs (by omega) (by omega)]; omega), h31]
  · show px_bind (mo_fine h) _ = _
    rw [mr_fine1 (by omega) M, B_bind, if_pos rfl]
    rfl
theorem u_sum (hm : m ≤ 40) (hs : ∀ j, j < m → sg j < 256) {d deep k : Nat} (hk : k ≤ m) (hU : ∀ k2, k ≤ k2 → k2 ≤ m → u_3 sg n m (u_call d 202 deep) deep k2) : u_2 sg n m (u_call (d + 1) 201 deep) deep k := by
  refine u_with hm hs (u_call d 202 deep) (u_call (d + 1) 201 deep) (fun g x h => mo_sum_6 (mo_exprG d) g (nI deep) x h) deep 2 3 k (fun st _ => u_top 3 st) (fun k' _ => u_bond (u_nx sg m k') < 3) (Or.inl rfl) (by omega) (fun _ _ h => h) (fun k _ h => h) (fun g x h r k M hk hb => ?_) (fun g x h r k M hk hb => ?_) (fun g x h r k f M hf => ?_) (fun h => rfl) hk hU
  · rw [u_bond_2] at hb
    have hh := mr_here hm hs (by omega) M
    show px_bind (mo_fine h) _ = _
    rw [mr_fine0 M, B_bind, if_neg (by decide), hh, B_bind, bc_43, if_neg (by rw [u_nxt hs (by omega) (by omega)]; omega), hh, B_bind, bc_45, if_neg (by rw [u_nxt hs (by omega) (by omega)]; omega)]
    rfl
  · rw [u_bond_2] at hb
    have hh := mr_here hm hs (by omega) M
    have h45 : ∀ s0 : Int32, mo_sum_45 (mo_exprG d) (mo_sum_6 (mo_exprG d) g) (nI deep) x s0 h = px_bind (u_call d 202 deep (px_w h 51 18 (nI (k + 1)))) fun z2 h3 => if s0 = 0 then mo_sum_6 (mo_exprG d) g (nI deep) (x - z2) h3 else mo_sum_6 (mo_exprG d) g (nI deep) (x + z2) h3 := fun s0 => by
      unfold mo_sum_45
      rw [M.2.2.2.1, bc_1, nI_add]
      rfl
    have h31 : mo_sum_31 (mo_exprG d) (mo_sum_6 (mo_exprG d) g) (nI deep) x h = px_bind (u_call d 202 deep (px_w h 51 18 (nI (k + 1)))) fun z h3 => mo_sum_6 (mo_exprG d) g (nI deep) (u_J (u_nx sg m k) x z) h3 := by
      unfold mo_sum_31
      rw [hh, B_bind, bc_43, bc_1, bc_0]
      rcases hb with hb | hb
      · rw [if_pos (by rw [u_nxt hs (by omega) (by omega)]; omega), h45, hb]
        refine congrArg (px_bind _) (funext fun z2 => funext fun h3 => ?_)
        rw [if_neg (by decide)]
        rfl
      · rw [if_neg (by rw [u_nxt hs (by omega) (by omega)]; omega), h45, hb]
        refine congrArg (px_bind _) (funext fun z2 => funext fun h3 => ?_)
        rw [if_pos rfl]
        rfl
    show px_bind (mo_fine h) _ = _
    rw [mr_fine0 M, B_bind, if_neg (by decide), hh, B_bind, bc_43]
    rcases hb with hb | hb
    · rw [if_pos (by rw [u_nxt hs (by omega) (by omega)]; omega), h31]
    · rw [if_neg (by rw [u_nxt hs (by omega) (by omega)]; omega), hh, B_bind, bc_45, if_pos (by rw [u_nxt hs (by omega) (by omega)]; omega), h31]
  · show px_bind (mo_fine h) _ = _
    rw [mr_fine1 (by omega) M, B_bind, if_pos rfl]
    rfl
theorem u_fac (hm : m ≤ 40) (hs : ∀ j, j < m → sg j < 256) {d deep k : Nat} (hk : k ≤ m) (hd4 : deep ≤ 4) (hU4 : k < m → u_4 sg n m (u_call d 204 deep) deep (k + 1)) (hU1 : k < m → deep < 4 → u_1 sg n m (u_call d 200 (deep + 1)) (deep + 1) (k + 1)) : u_4 sg n m (u_call (d + 1) 204 deep) deep k := by
  have hz : ∀ h, u_call (d + 1) 204 deep h = mo_factor (mo_exprG d) (nI deep) h := fun h => rfl
  by_cases q : u_nx sg m k = 45
  · have q2 : k < m ∧ sg k = 45 := by
      rw [u_nx_eq (by decide)] at q
      exact q
    have hc : ∀ h r, M_r h r m k sg none → mo_factor (mo_exprG d) (nI deep) h = px_bind (u_call d 204 deep (px_w h 51 18 (nI (k + 1)))) fun z h13 => some (-z, h13) := fun h r M => by
      unfold mo_factor
      rw [bc_45, mr_passes0 hm hs (by omega) M (by omega), if_pos q2, B_bind, if_neg (by decide)]
      rfl
    have hst : ∀ out st cmp, u_stp sg n m (false, k, out, st, deep, cmp) = .inl (false, k + 1, out, 256 :: st, deep, cmp) := fun out st cmp => by
      show u_E sg m (k, out, st, deep, cmp) = _
      unfold u_E
      dsimp only
      rw [if_pos q]
    rcases hU4 q2.1 with ⟨f, f1, f2, f3⟩ | ⟨k', l, v, g1, g2, g3, g4, g5⟩
    · refine Or.inl ⟨f, f1, fun h r M => ?_, fun out st cmp _ => u_R_step (hst out st cmp) (f3 out (256 :: st) cmp trivial)⟩
      obtain ⟨v, h', k2, x1, x2, x3⟩ := f2 _ r (M.to (k + 1))
      refine ⟨-v, h', k2, ?_, x2, B_fr.trans ((B_fr.refl _ h).w rfl) x3⟩
      rw [hz, hc h r M, x1, B_bind]
    · refine Or.inr ⟨k', l ++ [(true, 256)], fun e => -(v e), by omega, g2, u_val_neg g3, fun h r M => ?_, fun out st cmp _ => ?_⟩
      · have F1 : B_fr E_mx h (px_w h 51 18 (nI (k + 1))) := (B_fr.refl _ h).w rfl
        obtain ⟨h', x1, x2, x3⟩ := g4 _ r (M.to (k + 1))
        rw [e_h_fr F1] at x1
        refine ⟨h', ?_, x2, F1.trans x3⟩
        rw [hz, hc h r M, x1, B_bind]
      · obtain ⟨o2, s2, cmp2, y1, y2, -, y4⟩ := g5 out (256 :: st) cmp trivial
        refine ⟨o2, s2, cmp2, fun b hb => ?_, y2, trivial, fun R h => u_R_step (hst out st cmp) (y4 R h)⟩
        rw [y1 b hb, u_W_push _ _ (by decide) (by show b ≤ 4; exact hb), List.append_assoc]
  · have q' : ¬ (k < m ∧ sg k = 45) := by
      rw [u_nx_eq (by decide)] at q
      exact q
    by_cases q2 : deep < 4 ∧ u_nx sg m k = 40
    · have q3 : k < m ∧ sg k = 40 := by
        have := q2.2
        rw [u_nx_eq (by decide)] at this
        exact this
      have hc : ∀ h r, M_r h r m k sg none → mo_factor (mo_exprG d) (nI deep) h = px_bind (u_call d 200 (deep + 1) (px_w h 51 18 (nI (k + 1)))) fun z8 h9 => px_bind (mo_need (nI 41) h9) fun _ h11 => some (z8, h11) := fun h r M => by
        unfold mo_factor
        rw [bc_45, mr_passes0 hm hs (by omega) M (by omega), if_neg q', B_bind, if_pos rfl, mr_fine0 M, B_bind, if_neg (by decide), mr_here hm hs (by omega) M, B_bind, bc_40, if_pos (by rw [u_nxt hs (by omega) (by omega)]; exact q2.2), bc_4, if_neg (nI_ge q2.1 (by omega)), M.2.2.2.1, bc_1, nI_add, nI_add, bc_41]
        rfl
      have hst : ∀ out st cmp, u_stp sg n m (false, k, out, st, deep, cmp) = .inl (false, k + 1, out, 40 :: st, deep + 1, u_set cmp (deep + 1) false) := fun out st cmp => by
        show u_E sg m (k, out, st, deep, cmp) = _
        unfold u_E
        dsimp only
        rw [if_neg q, if_pos q2]
      have hp : ∀ (st : List Nat) (cmp : Nat → Bool), u_top 1 (40 :: st) ∧ (u_set cmp (deep + 1) false) (deep + 1) = false := fun st cmp => ⟨Or.inl rfl, if_pos rfl⟩
      rcases hU1 q3.1 q2.1 with ⟨f, f1, f2, f3⟩ | ⟨k', l, v, g1, g2, g3, g4, g5⟩
      · refine Or.inl ⟨f, f1, fun h r M => ?_, fun out st cmp _ => u_R_step (hst out st cmp) (f3 out (40 :: st) _ (hp st cmp))⟩
        obtain ⟨v, h', k2, x1, x2, x3⟩ := f2 _ r (M.to (k + 1))
        refine ⟨v, h', k2, ?_, x2, B_fr.trans ((B_fr.refl _ h).w rfl) x3⟩
        rw [hz, hc h r M, x1, B_bind, mr_need1 (by omega) x2, B_bind]
      · by_cases w : u_nx sg m k' = 41
        · have w2 : k' < m ∧ sg k' = 41 := by
            rw [u_nx_eq (by decide)] at w
            exact w
          refine Or.inr ⟨k' + 1, l, v, by omega, by omega, g3, fun h r M => ?_, fun out st cmp _ => ?_⟩
          · have F1 : B_fr E_mx h (px_w h 51 18 (nI (k + 1))) := (B_fr.refl _ h).w rfl
            obtain ⟨h', x1, x2, x3⟩ := g4 _ r (M.to (k + 1))
            rw [e_h_fr F1] at x1
            refine ⟨px_w h' 51 18 (nI (k' + 1)), ?_, x2.to (k' + 1), (F1.trans x3).w rfl⟩
            rw [hz, hc h r M, x1, B_bind, mr_need0 hm hs (by omega) x2 (by omega), if_pos w2, B_bind]
          · obtain ⟨o2, s2, cmp2, y1, y2, -, y4⟩ := g5 out (40 :: st) _ (hp st cmp)
            have hw1 := y1 1 (Nat.le_refl _)
            rw [u_W_top (out ++ l) (hp st cmp).1] at hw1
            refine ⟨out ++ l, st, cmp2, fun b hb => rfl, fun j hj => ?_, trivial, fun R h => u_R_step (hst out st cmp) (y4 R (u_R_step ?_ h))⟩
            · rw [y2 j hj]
              exact if_neg (by omega)
            · show u_A sg n m (k', o2, s2, deep + 1, cmp2) = _
              unfold u_A
              dsimp only
              rw [if_pos ⟨by omega, w⟩, hw1]
              rfl
        · have w2 : ¬ (k' < m ∧ sg k' = 41) := by
            rw [u_nx_eq (by decide)] at w
            exact w
          refine Or.inl ⟨k', g2, fun h r M => ?_, fun out st cmp _ => ?_⟩
          · have F1 : B_fr E_mx h (px_w h 51 18 (nI (k + 1))) := (B_fr.refl _ h).w rfl
            obtain ⟨h', x1, x2, x3⟩ := g4 _ r (M.to (k + 1))
            refine ⟨v (e_h (px_w h 51 18 (nI (k + 1)))), px_w h' 51 19 (nI k'), k', ?_, x2.fl k', (F1.trans x3).w rfl⟩
            rw [hz, hc h r M, x1, B_bind, mr_need0 hm hs (by omega) x2 (by omega), if_neg w2, B_bind]
          · obtain ⟨o2, s2, cmp2, y1, y2, y3, y4⟩ := g5 out (40 :: st) _ (hp st cmp)
            refine u_R_step (hst out st cmp) (y4 _ (u_R_end ?_))
            show u_A sg n m (k', o2, s2, deep + 1, cmp2) = _
            unfold u_A
            dsimp only
            rw [if_neg (fun e => w e.2), if_neg (fun e => by omega), if_pos y3]
    · -- a number, a letter, or nothing of it
      have hc : ∀ h r, M_r h r m k sg none → mo_factor (mo_exprG d) (nI deep) h = mo_factor_67 (mo_exprG d) (S_nxt sg m k) h := fun h r M => by
        unfold mo_factor
        rw [bc_45, mr_passes0 hm hs (by omega) M (by omega), if_neg q', B_bind, if_pos rfl, mr_fine0 M, B_bind, if_neg (by decide), mr_here hm hs (by omega) M, B_bind, bc_40, bc_4]
        by_cases w : S_nxt sg m k = nI 40
        · have w2 : u_nx sg m k = 40 := by
            rw [u_nxt hs (by omega) (by omega)] at w
            exact w
          rw [if_pos w, if_pos (nI_le (by omega) (by omega))]
        · rw [if_neg w]
      cases hd : S_dg sg m k with
      | true =>
        have hst : ∀ out st cmp, u_stp sg n m (false, k, out, st, deep, cmp) = .inl (true, (u_num sg m k).2, out ++ [(false, (u_num sg m k).1)], st, deep, cmp) := fun out st cmp => by
          show u_E sg m (k, out, st, deep, cmp) = _
          unfold u_E
          dsimp only
          rw [if_neg q, if_neg q2, if_pos hd]
        have hkm := (S_dg_lt hd).1
        have hlen : k < (u_num sg m k).2 ∧ (u_num sg m k).2 ≤ m := by
          unfold u_num
          cases e1 : S_dg sg m (k + 1) with
          | false =>
            simp only [Bool.false_eq_true, if_false]
            omega
          | true =>
            have := (S_dg_lt e1).1
            simp only [if_true]
            cases e2 : S_dg sg m (k + 2) with
            | false =>
              simp only [Bool.false_eq_true, if_false]
              omega
            | true =>
              have := (S_dg_lt e2).1
              simp only [if_true]
              omega
        refine Or.inr ⟨(u_num sg m k).2, [(false, (u_num sg m k).1)], fun _ => nI (u_num sg m k).1, hlen.1, hlen.2, u_val_num _, fun h r M => ?_, fun out st cmp _ => ⟨_, st, cmp, fun b hb => rfl, fun _ _ => rfl, trivial, fun R h => u_R_step (hst out st cmp) h⟩⟩
        obtain ⟨h', x1, x2, x3, x4, x5, x6⟩ := mr_number hm hs M hd
        refine ⟨h', ?_, x2, x6⟩
        rw [hz, hc h r M]
        unfold mo_factor_67
        rw [bc_48, bc_57, mr_in hs, B_bind, hd, if_neg (show ¬ B_01 true = 0 by decide), bc_3, x1, B_bind]
      | false =>
        by_cases hl : u_let (u_nx sg m k) = true
        · have hkm : k < m := u_nx_lt (fun e => by
            rw [e] at hl
            cases hl)
          have hst : ∀ out st cmp, u_stp sg n m (false, k, out, st, deep, cmp) = .inl (true, k + 1, out ++ [(true, u_nx sg m k)], st, deep, cmp) := fun out st cmp => by
            show u_E sg m (k, out, st, deep, cmp) = _
            unfold u_E
            dsimp only
            rw [if_neg q, if_neg q2, hd, if_neg (by decide), if_pos hl]
          refine Or.inr ⟨k + 1, [(true, u_nx sg m k)], fun e => e (u_nx sg m k), by omega, by omega, u_val_let hl, fun h r M => ?_, fun out st cmp _ => ⟨_, st, cmp, fun b hb => rfl, fun _ _ => rfl, trivial, fun R h => u_R_step (hst out st cmp) h⟩⟩
          have F1 : B_fr E_mx h (px_w h 51 18 (nI (k + 1))) := (B_fr.refl _ h).w rfl
          refine ⟨px_w h 51 18 (nI (k + 1)), ?_, M.to (k + 1), F1⟩
          have hix := u_ix_lt (u_nx sg m k)
          rw [hz, hc h r M]
          unfold mo_factor_67
          rw [bc_48, bc_57, mr_in hs, B_bind, hd, if_pos (show B_01 false = 0 from rfl), mo_letterOf_x hs, B_bind, if_pos hl, bc_m1, if_neg (fun e => by rw [bn_eqm (by omega)] at e; exact e), M.2.2.2.1, bc_1, nI_add]
          dsimp only
          rw [F1 51 27 rfl, mo_letterOf_x hs, B_bind, if_pos hl, po_64 hix, B_ift, nI_clamp (by omega), F1.row 64 (fun _ => rfl), bc_0]
          unfold mo_factor_132 e_h
          by_cases z : h 51 27 = 0
          · rw [if_pos z, if_pos z]
          · rw [if_neg z, if_neg z]
        · have hst : ∀ out st cmp, u_stp sg n m (false, k, out, st, deep, cmp) = .inr (.inl k) := fun out st cmp => by
            show u_E sg m (k, out, st, deep, cmp) = _
            unfold u_E
            dsimp only
            rw [if_neg q, if_neg q2, hd, if_neg (by decide), if_neg hl]
          refine Or.inl ⟨k, hk, fun h r M => ?_, fun out st cmp _ => u_R_end (hst out st cmp)⟩
          refine ⟨0, px_w h 51 19 (nI k), k, ?_, M.fl k, (B_fr.refl _ h).w rfl⟩
          rw [hz, hc h r M]
          unfold mo_factor_67
          rw [bc_48, bc_57, mr_in hs, B_bind, hd, if_pos (show B_01 false = 0 from rfl), mo_letterOf_x hs, B_bind, if_neg hl, bc_m1, if_pos rfl, M.2.2.2.1, mr_fault0 M, B_bind, bc_0]
theorem u_held (hm : m ≤ 40) (hs : ∀ j, j < m → sg j < 256) {d deep k : Nat} (hk : k ≤ m) (hU : ∀ k2, k ≤ k2 → k2 ≤ m → u_2 sg n m (u_call d 201 deep) deep k2) : u_1 sg n m (u_call (d + 1) 200 deep) deep k := by
  have hz : ∀ h, u_call (d + 1) 200 deep h = px_bind (u_call d 201 deep h) fun z1 h2 => px_bind (mo_passes (nI 60) h2) fun z3 h4 => if z3 = 0 then px_bind (mo_passes (nI 62) h4) fun z5 h6 => if z5 = 0 then px_bind (mo_passes (nI 61) h6) fun z7 h8 => if z7 = 0 then some (z1, h8) else px_bind (u_call d 201 deep h8) fun z9 h10 => some (u_J 61 z1 z9, h10) else px_bind (u_call d 201 deep h6) fun z11 h12 => some (u_J 62 z1 z11, h12) else px_bind (u_call d 201 deep h4) fun z13 h14 => some (u_J 60 z1 z13, h14) := fun h => by
    show mo_held (mo_exprG d) (nI deep) h = _
    unfold mo_held mo_held_29 mo_held_53 mo_held_77
    rw [bc_60, bc_61, bc_62, bc_0, bc_1]
    have e60 : ∀ (a b : Int32) (h : pH), (if b ≤ a then some ((0 : Int32), h) else some (nI 1, h)) = some (u_J 60 a b, h) := fun a b h => by
      show _ = some ((if a < b then nI 1 else 0), h)
      by_cases q : b ≤ a
      · rw [if_pos q, if_neg (Int32.not_lt.mpr q)]
      · rw [if_neg q, if_pos (Int32.not_le.mp q)]
    have e62 : ∀ (a b : Int32) (h : pH), (if a ≤ b then some ((0 : Int32), h) else some (nI 1, h)) = some (u_J 62 a b, h) := fun a b h => by
      show _ = some ((if b < a then nI 1 else 0), h)
      by_cases q : a ≤ b
      · rw [if_pos q, if_neg (Int32.not_lt.mpr q)]
      · rw [if_neg q, if_pos (Int32.not_le.mp q)]
    have e61 : ∀ (a b : Int32) (h : pH), (if a = b then some (nI 1, h) else some ((0 : Int32), h)) = some (u_J 61 a b, h) := fun a b h => by
      show _ = some ((if a = b then nI 1 else 0), h)
      by_cases q : a = b
      · rw [if_pos q, if_pos q]
      · rw [if_neg q, if_neg q]
    simp only [e60, e61, e62]
    rfl
  rcases hU k (Nat.le_refl _) hk with ⟨f, f1, f2, f3⟩ | ⟨k1, l1, v1, g1, g2, g3, g4, g5⟩
  · refine Or.inl ⟨f, f1, fun h r M => ?_, fun out st cmp h1 => f3 out st cmp (u_top_le h1.1 (by omega))⟩
    obtain ⟨v, h', k2, x1, x2, x3⟩ := f2 h r M
    refine ⟨v, h', k2, ?_, x2, x3⟩
    have hp := fun z => mr_passes1 (show f < 2 ^ 31 by omega) x2 z
    rw [hz, x1, B_bind, hp, B_bind, if_pos rfl, hp, B_bind, if_pos rfl, hp, B_bind, if_pos rfl]
  · have hb2 : u_bond (u_nx sg m k1) < 2 := by
      obtain ⟨o2, s2, cmp2, -, -, y3, -⟩ := g5 [] [] (fun _ => false) trivial
      exact y3
    by_cases b1 : u_bond (u_nx sg m k1) = 1
    · have hb := b1
      rw [u_bond_1] at hb
      have hkm : k1 < m := u_nx_lt (sg := sg) (fun e => by omega)
      have hne : ¬ u_nx sg m k1 = 41 := by omega
      -- the other side's way
      have hc : ∀ h2 r z1, M_r h2 r m k1 sg none → (px_bind (mo_passes (nI 60) h2) fun z3 h4 => if z3 = 0 then px_bind (mo_passes (nI 62) h4) fun z5 h6 => if z5 = 0 then px_bind (mo_passes (nI 61) h6) fun z7 h8 => if z7 = 0 then some (z1, h8) else px_bind (u_call d 201 deep h8) fun z9 h10 => some (u_J 61 z1 z9, h10) else px_bind (u_call d 201 deep h6) fun z11 h12 => some (u_J 62 z1 z11, h12) else px_bind (u_call d 201 deep h4) fun z13 h14 => some (u_J 60 z1 z13, h14)) = px_bind (u_call d 201 deep (px_w h2 51 18 (nI (k1 + 1)))) fun z h3 => some (u_J (u_nx sg m k1) z1 z, h3) := fun h2 r z1 M => by
        have hp : ∀ z, z < 256 → z ≠ 0 → mo_passes (nI z) h2 = if u_nx sg m k1 = z then some (nI 1, px_w h2 51 18 (nI (k1 + 1))) else some (0, h2) := fun z h1 h3 => by
          rw [mr_passes0 hm hs (by omega) M h1]
          simp only [u_nx_eq h3]
        rcases hb with hb | hb | hb
        · rw [hp 60 (by omega) (by omega), if_pos hb, B_bind, if_neg (by decide), hb]
        · rw [hp 60 (by omega) (by omega), if_neg (by omega), B_bind, if_pos rfl, hp 62 (by omega) (by omega), if_neg (by omega), B_bind, if_pos rfl, hp 61 (by omega) (by omega), if_pos hb, B_bind, if_neg (by decide), hb]
        · rw [hp 60 (by omega) (by omega), if_neg (by omega), B_bind, if_pos rfl, hp 62 (by omega) (by omega), if_pos hb, B_bind, if_neg (by decide), hb]
      -- the machine's
      have hst : ∀ (out : List uC) (st : List Nat) (cmp : Nat → Bool) (o : List uC) (s : List Nat) (cmp1 : Nat → Bool), u_top 1 st → cmp deep = false → (∀ b, b ≤ 2 → u_W b o s = u_W b (out ++ l1) st) → (∀ j, j < deep + 1 → cmp1 j = cmp j) → u_stp sg n m (true, k1, o, s, deep, cmp1) = .inl (false, k1 + 1, out ++ l1, u_nx sg m k1 :: st, deep, u_set cmp1 deep true) := fun out st cmp o s cmp1 h1 h2 h3 h4 => by
        show u_A sg n m (k1, o, s, deep, cmp1) = _
        unfold u_A
        dsimp only
        rw [if_neg (fun w => hne w.2), if_neg (fun w => w.2 hkm), if_neg (fun w => by
          rcases w with w | w
          · omega
          · rw [h4 deep (by omega), h2] at w
            cases w.2), if_pos b1, b1, h3 1 (by omega), u_W_top _ h1]
      have htop : ∀ st, u_top 2 (u_nx sg m k1 :: st) := fun st => Or.inr (by omega)
      rcases hU (k1 + 1) (by omega) (by omega) with ⟨f, f1, f2, f3⟩ | ⟨k2, l2, v2, i1, i2, i3, i4, i5⟩
      · refine Or.inl ⟨f, f1, fun h r M => ?_, fun out st cmp h1 => ?_⟩
        · obtain ⟨h2, x1, x2, x3⟩ := g4 h r M
          obtain ⟨v, h', k3, y1, y2, y3⟩ := f2 _ r (x2.to (k1 + 1))
          refine ⟨u_J (u_nx sg m k1) (v1 (e_h h)) v, h', k3, ?_, y2, (x3.w rfl).trans y3⟩
          rw [hz, x1, B_bind, hc h2 r _ x2, y1, B_bind]
        · obtain ⟨o2, s2, cmp2, y1, y2, -, y4⟩ := g5 out st cmp (u_top_le h1.1 (by omega))
          exact y4 _ (u_R_step (hst out st cmp o2 s2 cmp2 h1.1 h1.2 y1 y2) (f3 _ _ _ (htop st)))
      · refine Or.inr ⟨k2, l1 ++ l2 ++ [(true, u_nx sg m k1)], fun e => u_J (u_nx sg m k1) (v1 e) (v2 e), by omega, i2, u_val_op g3 i3 (by rcases hb with e | e | e <;> rw [e] <;> rfl) (by omega), fun h r M => ?_, fun out st cmp h1 => ?_⟩
        · obtain ⟨h2, x1, x2, x3⟩ := g4 h r M
          have F2 : B_fr E_mx h (px_w h2 51 18 (nI (k1 + 1))) := x3.w rfl
          obtain ⟨h', y1, y2, y3⟩ := i4 _ r (x2.to (k1 + 1))
          rw [e_h_fr F2] at y1
          refine ⟨h', ?_, y2, F2.trans y3⟩
          rw [hz, x1, B_bind, hc h2 r _ x2, y1, B_bind]
        · obtain ⟨o2, s2, cmp2, y1, y2, -, y4⟩ := g5 out st cmp (u_top_le h1.1 (by omega))
          obtain ⟨o3, s3, cmp3, w1, w2, w3, w4⟩ := i5 (out ++ l1) (u_nx sg m k1 :: st) (u_set cmp2 deep true) (htop st)
          refine ⟨o3, s3, cmp3, fun b hb' => ?_, fun j hj => ?_, ?_, fun R h => y4 _ (u_R_step (hst out st cmp o2 s2 cmp2 h1.1 h1.2 y1 y2) (w4 R h))⟩
          · rw [w1 b (by omega), u_W_push _ _ (by omega) (by omega), List.append_assoc, List.append_assoc, List.append_assoc]
          · rw [w2 j (by omega), ← y2 j (by omega)]
            exact if_neg (by omega)
          · have e : cmp3 deep = true := by
              rw [w2 deep (by omega)]
              exact if_pos rfl
            by_cases z : u_bond (u_nx sg m k2) = 0
            · exact Or.inl z
            · exact Or.inr ⟨by omega, e⟩
    · have b0 : u_bond (u_nx sg m k1) = 0 := by omega
      refine Or.inr ⟨k1, l1, v1, g1, g2, g3, fun h r M => ?_, fun out st cmp h1 => ?_⟩
      · obtain ⟨h2, x1, x2, x3⟩ := g4 h r M
        have hp : ∀ z, z < 256 → u_bond z = 1 → mo_passes (nI z) h2 = some (0, h2) := fun z h1 h3 => by
          rw [mr_passes0 hm hs (by omega) x2 h1, if_neg (fun w => b1 (by
            rw [u_nx_at w.1, w.2, h3]))]
        refine ⟨h2, ?_, x2, x3⟩
        rw [hz, x1, B_bind, hp 60 (by omega) rfl, B_bind, if_pos rfl, hp 62 (by omega) rfl, B_bind, if_pos rfl, hp 61 (by omega) rfl, B_bind, if_pos rfl]
      · obtain ⟨o2, s2, cmp2, y1, y2, -, y4⟩ := g5 out st cmp (u_top_le h1.1 (by omega))
        exact ⟨o2, s2, cmp2, fun b hb' => y1 b (by omega), fun j hj => y2 j (by omega), Or.inl b0, y4⟩
theorem u_all (hm : m ≤ 40) (hs : ∀ j, j < m → sg j < 256) : ∀ (d deep k : Nat), deep ≤ 4 → k ≤ m → (1 + 4 * (4 - deep) + (m - k) ≤ d → u_4 sg n m (u_call d 204 deep) deep k) ∧ (2 + 4 * (4 - deep) + (m - k) ≤ d → u_3 sg n m (u_call d 202 deep) deep k) ∧ (3 + 4 * (4 - deep) + (m - k) ≤ d → u_2 sg n m (u_call d 201 deep) deep k) ∧ (4 + 4 * (4 - deep) + (m - k) ≤ d → u_1 sg n m (u_call d 200 deep) deep k) := by
  intro d
  induction d with
  | zero => intro deep k _ _; exact ⟨fun h => by omega, fun h => by omega, fun h => by omega, fun h => by omega⟩
  | succ d ih =>
    intro deep k hd hk
    refine ⟨fun h => u_fac hm hs hk hd (fun h1 => (ih deep (k + 1) hd (by omega)).1 (by omega)) (fun h1 h2 => (ih (deep + 1) (k + 1) (by omega) (by omega)).2.2.2 (by omega)), fun h => u_product hm hs hk (fun k2 h1 h2 => (ih deep k2 hd h2).1 (by omega)), fun h => u_sum hm hs hk (fun k2 h1 h2 => (ih deep k2 hd h2).2.1 (by omega)), fun h => u_held hm hs hk (fun k2 h1 h2 => (ih deep k2 hd h2).2.2.1 (by omega))⟩
/-- the whole of an expression -/
theorem u_top_s (hm : m ≤ 40) (hs : ∀ j, j < m → sg j < 256) : u_1 sg n m (mo_heldT (nI 0)) 0 0 := by
  have := (u_all (n := n) hm hs px_n100 0 0 (by omega) (by omega)).2.2.2 (by rw [px_n100_eq]; omega)
  exact this
end RDESC
