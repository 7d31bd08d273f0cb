/-! Layer B: rule: the descent is a run of the machine -/
section RREF
variable {n m : Nat} {sg : Nat → Nat}
noncomputable def u_call (d id deep : Nat) (h : pH) : pR := mo_exprG d id [.inr (.inl 51), .inl (nI deep)] h
/-- what a part of an expression comes to: a fault, or a place behind it, codes and a value -/
def u_F (sg : Nat → Nat) (n m : Nat) (c : pH → pR) (deep k : Nat) (P : List Nat → Bool → Prop) : Prop := ∃ f, f ≤ m ∧ (∀ h r, M_r h r m k sg none → ∃ v h' k2, c h = some (v, h') ∧ M_r h' r m k2 sg (some f) ∧ B_fr E_mx h h') ∧ ∀ out st cmp, P st (cmp deep) → u_R sg n m (false, k, out, st, deep, cmp) (.inl f)
def u_G (sg : Nat → Nat) (n m : Nat) (c : pH → pR) (deep k B J : Nat) (P : List Nat → Bool → Prop) (Q : Nat → Bool → Prop) : Prop := ∃ (k' : Nat) (l : List uC) (v : (Nat → Int32) → Int32), k < k' ∧ k' ≤ m ∧ u_val l v ∧ (∀ h r, M_r h r m k sg none → ∃ h', c h = some (v (e_h h), h') ∧ M_r h' r m k' sg none ∧ B_fr E_mx h h') ∧ ∀ out st cmp, P st (cmp deep) → ∃ out' st' cmp', (∀ b, b ≤ B → u_W b out' st' = u_W b (out ++ l) st) ∧ (∀ j, j < J → cmp' j = cmp j) ∧ Q k' (cmp' deep) ∧ ∀ R, u_R sg n m (true, k', out', st', deep, cmp') R → u_R sg n m (false, k, out, st, deep, cmp) R
def u_U (sg : Nat → Nat) (n m : Nat) (c : pH → pR) (deep k B J : Nat) (P : List Nat → Bool → Prop) (Q : Nat → Bool → Prop) : Prop := u_F sg n m c deep k P ∨ u_G sg n m c deep k B J P Q
def u_4 (sg : Nat → Nat) (n m : Nat) (c : pH → pR) (deep k : Nat) : Prop := u_U sg n m c deep k 4 (deep + 1) (fun _ _ => True) (fun _ _ => True)
def u_3 (sg : Nat → Nat) (n m : Nat) (c : pH → pR) (deep k : Nat) : Prop := u_U sg n m c deep k 3 (deep + 1) (fun st _ => u_top 3 st) (fun k' _ => u_bond (u_nx sg m k') < 3)
def u_2 (sg : Nat → Nat) (n m : Nat) (c : pH → pR) (deep k : Nat) : Prop := u_U sg n m c deep k 2 (deep + 1) (fun st _ => u_top 2 st) (fun k' _ => u_bond (u_nx sg m k') < 2)
def u_1 (sg : Nat → Nat) (n m : Nat) (c : pH → pR) (deep k : Nat) : Prop := u_U sg n m c deep k 1 deep (fun st c => u_top 1 st ∧ c = false) (fun k' c => u_bond (u_nx sg m k') = 0 ∨ (u_bond (u_nx sg m k') = 1 ∧ c = true))
theorem u_nx_lt {k : Nat} (h : u_nx sg m k ≠ 0) : k < m := by
  by_cases q : k < m
  · exact q
  · unfold u_nx at h
    rw [if_neg q] at h
    exact absurd rfl h
theorem u_nx_at {k : Nat} (h : k < m) : u_nx sg m k = sg k := if_pos h
theorem u_bond_nx (hs : ∀ j, j < m → sg j < 256) (k : Nat) : u_bond (u_nx sg m k) < 4 := by
  unfold u_nx u_bond
  by_cases q : k < m
  · have := hs k q
    rw [if_pos q]
    repeat' split
    all_goals omega
  · rw [if_neg q]
    decide
/-- a loop over joints that bind as B, and what it calls between them -/
theorem u_loop (hm : m ≤ 40) (hs : ∀ j, j < m → sg j < 256) (c : pH → pR) (Lp : Nat → Int32 → pH → pR) (deep B Bs : Nat) (P : List Nat → Bool → Prop) (Q : Nat → Bool → Prop) (hB : B = 2 ∨ B = 3) (hBs : B ≤ Bs) (hP : ∀ st b, u_top (B + 1) st → P st b) (hQ : ∀ k b, Q k b → u_bond (u_nx sg m k) < B + 1)
    (L0 : ∀ g x h r k, M_r h r m k sg none → k ≤ m → ¬ u_bond (u_nx sg m k) = B → Lp (g + 1) x h = some (x, h))
    (L1 : ∀ g x h r k, M_r h r m k sg none → k ≤ m → u_bond (u_nx sg m k) = B → Lp (g + 1) x h = px_bind (c (px_w h 51 18 (nI (k + 1)))) fun z h3 => Lp g (u_J (u_nx sg m k) x z) h3)
    (L2 : ∀ g x h r k f, M_r h r m k sg (some f) → f ≤ m → Lp (g + 1) x h = some (x, h)) : ∀ (d k : Nat), m - k ≤ d → k ≤ m → u_bond (u_nx sg m k) < B + 1 → (∀ k2, k < k2 → k2 ≤ m → u_U sg n m c deep k2 Bs (deep + 1) P Q) →
    (∃ f, f ≤ m ∧ (∀ h r g x, M_r h r m k sg none → d + 1 < g → ∃ v h' k2, Lp g x h = some (v, h') ∧ M_r h' r m k2 sg (some f) ∧ B_fr E_mx h h') ∧ ∀ O st cmp o s, u_top B st → (∀ b, b ≤ B → u_W b o s = u_W b O st) → u_R sg n m (true, k, o, s, deep, cmp) (.inl f)) ∨
    (∃ (k' : Nat) (tl : List uC) (v : (Nat → Int32) → Int32 → Int32), k ≤ k' ∧ k' ≤ m ∧ (∀ l w, u_val l w → u_val (l ++ tl) (fun e => v e (w e))) ∧ (∀ h r g x, M_r h r m k sg none → d + 1 < g → ∃ h', Lp g x h = some (v (e_h h) x, h') ∧ M_r h' r m k' sg none ∧ B_fr E_mx h h') ∧ u_bond (u_nx sg m k') < B ∧ ∀ O st cmp o s, u_top B st → (∀ b, b ≤ B → u_W b o s = u_W b O st) → ∃ o' s' cmp', (∀ b, b ≤ B → u_W b o' s' = u_W b (O ++ tl) st) ∧ (∀ j, j < deep + 1 → cmp' j = cmp j) ∧ ∀ R, u_R sg n m (true, k', o', s', deep, cmp') R → u_R sg n m (true, k, o, s, deep, cmp) R) := by
  intro d
  induction d with
  | zero =>
    intro k hd hk hb _
    have hnb : ¬ u_bond (u_nx sg m k) = B := by
      unfold u_nx
      rw [if_neg (by omega)]
      intro e
      change 0 = B at e
      omega
    refine Or.inr ⟨k, [], fun _ x => x, Nat.le_refl _, hk, fun l w h => ?_, fun h r g x M hg => ?_, by omega, fun O st cmp o s h1 h2 => ⟨o, s, cmp, fun b hb => ?_, fun _ _ => rfl, fun R h => h⟩⟩
    · rw [List.append_nil]
      exact h
    · obtain ⟨g, rfl⟩ : ∃ n', g = n' + 1 := ⟨g - 1, by omega⟩
      exact ⟨h, L0 g x h r k M hk hnb, M, B_fr.refl _ _⟩
    · rw [List.append_nil]
      exact h2 b hb
  | succ d ih =>
    intro k hd hk hb hU
    by_cases q : u_bond (u_nx sg m k) = B
    · have hkm : k < m := u_nx_lt (fun e => by
        rw [e] at q
        change 0 = B at q
        omega)
      have hne : ¬ u_nx sg m k = 41 := fun e => by
        rw [e] at q
        change 0 = B at q
        omega
      -- the machine's step
      have hstep : ∀ O st cmp o s, u_top B st → (∀ b, b ≤ B → u_W b o s = u_W b O st) → u_stp sg n m (true, k, o, s, deep, cmp) = .inl (false, k + 1, O, u_nx sg m k :: st, deep, cmp) := fun O st cmp o s h1 h2 => by
        show u_A sg n m (k, o, s, deep, cmp) = _
        unfold u_A
        dsimp only
        rw [if_neg (fun w => hne w.2), if_neg (fun w => w.2 hkm), if_neg (by omega), if_neg (by omega), q, h2 B (Nat.le_refl _), u_W_top O h1]
      have hwp : ∀ (O : List uC) (st : List Nat) b, b ≤ B → u_W b O (u_nx sg m k :: st) = u_W b (O ++ [(true, u_nx sg m k)]) st := fun O st b hb => u_W_push O st (fun e => by
        rw [e] at q
        change 0 = B at q
        omega) (by omega)
      have htop : ∀ st, u_top (B + 1) (u_nx sg m k :: st) := fun st => Or.inr (by omega)
      rcases hU (k + 1) (by omega) (by omega) with ⟨f, f1, f2, f3⟩ | ⟨k2, l2, v2, g1, g2, g3, g4, g5⟩
      · refine Or.inl ⟨f, f1, fun h r g x M hg => ?_, fun O st cmp o s h1 h2 => u_R_step (hstep O st cmp o s h1 h2) (f3 O _ cmp (hP _ _ (htop st)))⟩
        obtain ⟨g, rfl⟩ : ∃ n', g = n' + 2 := ⟨g - 2, by omega⟩
        obtain ⟨v, h', k2, x1, x2, x3⟩ := f2 _ r (M.to (k + 1))
        refine ⟨u_J (u_nx sg m k) x v, h', k2, ?_, x2, B_fr.trans ((B_fr.refl _ h).w rfl) x3⟩
        rw [L1 (g + 1) x h r k M hk q, x1, B_bind, L2 g _ h' r k2 f x2 f1]
      · have hQ2 : u_bond (u_nx sg m k2) < B + 1 := by
          obtain ⟨o2, s2, cmp2, -, -, y3, -⟩ := g5 [] (u_nx sg m k :: []) (fun _ => false) (hP _ _ (htop []))
          exact hQ k2 _ y3
        have hlet : u_let (u_nx sg m k) = false ∧ u_nx sg m k ≠ 256 := by
          constructor
          · cases z : u_let (u_nx sg m k) with
            | false => rfl
            | true =>
              exfalso
              unfold u_bond at q
              unfold u_let at z
              simp at z
              rcases z with z | z | z | z | z | z | z <;> rw [z] at q <;> change 0 = B at q <;> omega
          · have := hs k hkm
            rw [u_nx_at hkm]
            omega
        -- the first of it, on the machine
        have hm1 : ∀ O st cmp o s, u_top B st → (∀ b, b ≤ B → u_W b o s = u_W b O st) → ∃ o' s' cmp', (∀ b, b ≤ B → u_W b o' s' = u_W b (O ++ (l2 ++ [(true, u_nx sg m k)])) st) ∧ (∀ j, j < deep + 1 → cmp' j = cmp j) ∧ ∀ R, u_R sg n m (true, k2, o', s', deep, cmp') R → u_R sg n m (true, k, o, s, deep, cmp) R := fun O st cmp o s h1 h2 => by
          obtain ⟨o2, s2, cmp2, y1, y2, -, y4⟩ := g5 O (u_nx sg m k :: st) cmp (hP _ _ (htop st))
          refine ⟨o2, s2, cmp2, fun b hb => ?_, y2, fun R h => u_R_step (hstep O st cmp o s h1 h2) (y4 R h)⟩
          rw [y1 b (by omega), hwp _ st b hb, List.append_assoc]
        rcases ih k2 (by omega) g2 hQ2 (fun k3 h1 h2 => hU k3 (by omega) h2) with ⟨f, f1, f2, f3⟩ | ⟨k', tl, v, i1, i2, i3, i4, i5, i6⟩
        · refine Or.inl ⟨f, f1, fun h r g x M hg => ?_, fun O st cmp o s h1 h2 => ?_⟩
          · obtain ⟨g, rfl⟩ : ∃ n', g = n' + 1 := ⟨g - 1, by omega⟩
            obtain ⟨h2, x1, x2, x3⟩ := g4 _ r (M.to (k + 1))
            obtain ⟨v, h', k3, y1, y2, y3⟩ := f2 h2 r g (u_J (u_nx sg m k) x (v2 (e_h (px_w h 51 18 (nI (k + 1)))))) x2 (by omega)
            refine ⟨v, h', k3, ?_, y2, (B_fr.trans ((B_fr.refl _ h).w rfl) x3).trans y3⟩
            rw [L1 g x h r k M hk q, x1, B_bind, y1]
          · obtain ⟨o', s', cmp', y1, y2, y3⟩ := hm1 O st cmp o s h1 h2
            exact y3 _ (f3 _ st cmp' o' s' h1 y1)
        · refine Or.inr ⟨k', (l2 ++ [(true, u_nx sg m k)]) ++ tl, fun e x => v e (u_J (u_nx sg m k) x (v2 e)), by omega, i2, fun l w hl => ?_, fun h r g x M hg => ?_, i5, fun O st cmp o s h1 h2 => ?_⟩
          · have := i3 _ _ (u_val_op hl g3 hlet.1 hlet.2)
            rw [List.append_assoc, List.append_assoc] at this
            rw [List.append_assoc]
            exact this
          · obtain ⟨g, rfl⟩ : ∃ n', g = n' + 1 := ⟨g - 1, by omega⟩
            have F1 : B_fr E_mx h (px_w h 51 18 (nI (k + 1))) := (B_fr.refl _ h).w rfl
            obtain ⟨h2, x1, x2, x3⟩ := g4 _ r (M.to (k + 1))
            rw [e_h_fr F1] at x1
            obtain ⟨h', y1, y2, y3⟩ := i4 h2 r g (u_J (u_nx sg m k) x (v2 (e_h h))) x2 (by omega)
            rw [e_h_fr (F1.trans x3)] at y1
            refine ⟨h', ?_, y2, (F1.trans x3).trans y3⟩
            rw [L1 g x h r k M hk q, x1, B_bind, y1]
          · obtain ⟨o', s', cmp', y1, y2, y3⟩ := hm1 O st cmp o s h1 h2
            obtain ⟨o3, s3, cmp3, w1, w2, w3⟩ := i6 _ st cmp' o' s' h1 y1
            refine ⟨o3, s3, cmp3, fun b hb => ?_, fun j hj => by rw [w2 j hj, y2 j hj], fun R h => y3 R (w3 R h)⟩
            rw [w1 b hb, List.append_assoc]
    · refine Or.inr ⟨k, [], fun _ x => x, Nat.le_refl _, hk, fun l w h => ?_, fun h r g x M hg => ?_, by omega, fun O st cmp o s h1 h2 => ⟨o, s, cmp, fun b hb => ?_, fun _ _ => rfl, fun R h => h⟩⟩
      · rw [List.append_nil]
        exact h
      · obtain ⟨g, rfl⟩ : ∃ n', g = n' + 1 := ⟨g - 1, by omega⟩
        exact ⟨h, L0 g x h r k M hk q, M, B_fr.refl _ _⟩
      · rw [List.append_nil]
        exact h2 b hb
/-- a part and the loop behind it -/
theorem u_with (hm : m ≤ 40) (hs : ∀ j, j < m → sg j < 256) (c cc : pH → pR) (Lp : Nat → Int32 → pH → pR) (deep B Bs k : Nat) (P : List Nat → Bool → Prop) (Q : Nat → Bool → Prop) (hB : B = 2 ∨ B = 3) (hBs : B ≤ Bs) (hP : ∀ st b, u_top (B + 1) st → P st b) (hQ : ∀ k b, Q k b → u_bond (u_nx sg m k) < B + 1)
    (L0 : ∀ g x h r k, M_r h r m k sg none → k ≤ m → ¬ u_bond (u_nx sg m k) = B → Lp (g + 1) x h = some (x, h))
    (L1 : ∀ g x h r k, M_r h r m k sg none → k ≤ m → u_bond (u_nx sg m k) = B → Lp (g + 1) x h = px_bind (c (px_w h 51 18 (nI (k + 1)))) fun z h3 => Lp g (u_J (u_nx sg m k) x z) h3)
    (L2 : ∀ g x h r k f, M_r h r m k sg (some f) → f ≤ m → Lp (g + 1) x h = some (x, h))
    (hcc : ∀ h, cc h = px_bind (c h) fun z h2 => Lp px_F z h2) (hk : k ≤ m) (hU : ∀ k2, k ≤ k2 → k2 ≤ m → u_U sg n m c deep k2 Bs (deep + 1) P Q) : u_U sg n m cc deep k B (deep + 1) (fun st _ => u_top B st) (fun k' _ => u_bond (u_nx sg m k') < B) := by
  obtain ⟨F, hF⟩ : ∃ F, px_F = F + 1 := ⟨px_F - 1, by have : 100 < px_F := px_F_lt (by omega); omega⟩
  have hF2 : 100 < px_F := px_F_lt (by omega)
  rcases hU k (Nat.le_refl _) hk with ⟨f, f1, f2, f3⟩ | ⟨k2, l2, v2, g1, g2, g3, g4, g5⟩
  · refine Or.inl ⟨f, f1, fun h r M => ?_, fun out st cmp h1 => f3 out st cmp (hP _ _ (u_top_le h1 (by omega)))⟩
    obtain ⟨v, h', k2, x1, x2, x3⟩ := f2 h r M
    refine ⟨v, h', k2, ?_, x2, x3⟩
    rw [hcc, x1, B_bind, hF, L2 F v h' r k2 f x2 f1]
  · have hQ2 : u_bond (u_nx sg m k2) < B + 1 := by
      obtain ⟨o2, s2, cmp2, -, -, y3, -⟩ := g5 [] [] (fun _ => false) (hP _ _ trivial)
      exact hQ k2 _ y3
    rcases u_loop (n := n) hm hs c Lp deep B Bs P Q hB hBs hP hQ L0 L1 L2 m k2 (by omega) g2 hQ2 (fun k3 h1 h2 => hU k3 (by omega) h2) with ⟨f, f1, f2, f3⟩ | ⟨k', tl, v, i1, i2, i3, i4, i5, i6⟩
    · refine Or.inl ⟨f, f1, fun h r M => ?_, fun out st cmp h1 => ?_⟩
      · obtain ⟨h2, x1, x2, x3⟩ := g4 h r M
        obtain ⟨v, h', k3, y1, y2, y3⟩ := f2 h2 r px_F (v2 (e_h h)) x2 (by omega)
        exact ⟨v, h', k3, by rw [hcc, x1, B_bind, y1], y2, x3.trans y3⟩
      · obtain ⟨o2, s2, cmp2, y1, y2, -, y4⟩ := g5 out st cmp (hP _ _ (u_top_le h1 (by omega)))
        exact y4 _ (f3 _ st cmp2 o2 s2 h1 (fun b hb => y1 b (by omega)))
    · refine Or.inr ⟨k', l2 ++ tl, fun e => v e (v2 e), by omega, i2, i3 l2 v2 g3, fun h r M => ?_, fun out st cmp h1 => ?_⟩
      · obtain ⟨h2, x1, x2, x3⟩ := g4 h r M
        obtain ⟨h', y1, y2, y3⟩ := i4 h2 r px_F (v2 (e_h h)) x2 (by omega)
        rw [e_h_fr x3] at y1
        exact ⟨h', by rw [hcc, x1, B_bind, y1], y2, x3.trans y3⟩
      · obtain ⟨o2, s2, cmp2, y1, y2, -, y4⟩ := g5 out st cmp (hP _ _ (u_top_le h1 (by omega)))
        obtain ⟨o3, s3, cmp3, w1, w2, w3⟩ := i6 _ st cmp2 o2 s2 h1 (fun b hb => y1 b (by omega))
        refine ⟨o3, s3, cmp3, fun b hb => ?_, fun j hj => by rw [w2 j hj, y2 j hj], i5, fun R h => y4 R (w3 R h)⟩
        rw [w1 b hb, List.append_assoc]
end RREF
