/-! Fields, rows, calls, returns -/
theorem px_ctx_parts {X : pX} (h : px_ctxB X = true) : X.2.1.all (px_fB X.1) = true ∧ X.2.2.1.all (px_mB X.1) = true ∧ X.2.2.2.1.all (fun q => px_at q.2.2 (.constant X.1 q.1 q.2.1)) = true ∧ X.2.2.2.2.all (fun q => px_at q.2.2 (.constantLong X.1 q.1 q.2.1)) = true := by
  unfold px_ctxB at h
  rw [Bool.and_eq_true, Bool.and_eq_true, Bool.and_eq_true] at h
  exact h
theorem px_ctx_c {X : pX} (h : px_ctxB X = true) {j : Nat} {q : Int32 × Nat} (hj : px_find X.2.2.2.1 j = some q) : Jvm.Cond.constant X.1 j q.1 ∈ px_TB :=
  px_TB_of (px_at_mem (List.all_eq_true.mp (px_ctx_parts h).2.2.1 _ (px_find_mem hj))) rfl
theorem px_ctx_l {X : pX} (h : px_ctxB X = true) {j : Nat} {q : Int64 × Nat} (hj : px_find X.2.2.2.2 j = some q) : Jvm.Cond.constantLong X.1 j q.1 ∈ px_TB :=
  px_TB_of (px_at_mem (List.all_eq_true.mp (px_ctx_parts h).2.2.2 _ (px_find_mem hj))) rfl
theorem px_ctx_f {X : pX} (h : px_ctxB X = true) {j : Nat} {q : Nat × Nat × Nat} (hj : px_find X.2.1 j = some q) : ∃ r, px_cl[q.1]? = some r ∧ q.2.1 < r.2.2 ∧ (r.2.1 q.2.1).1 = r.1 ∧ (Jvm.Cond.fieldLink X.1 j r.1 (r.2.1 q.2.1).2.1 (r.2.1 q.2.1).2.2.1 ∈ px_TB ∨ Jvm.Cond.fieldLinkNest X.1 j r.1 (r.2.1 q.2.1).2.1 (r.2.1 q.2.1).2.2.1 "WordsUnsaid" ∈ px_TN) := by
  have h1 := List.all_eq_true.mp (px_ctx_parts h).1 _ (px_find_mem hj)
  unfold px_fB at h1
  split at h1
  · cases h1
  · rename_i r hr
    rw [Bool.and_eq_true, Bool.and_eq_true, Bool.or_eq_true] at h1
    refine ⟨r, hr, by simpa [Nat.blt_eq] using h1.1, of_decide_eq_true h1.2.1, ?_⟩
    rcases h1.2.2 with h2 | h2
    · exact Or.inl (px_TB_of (px_at_mem h2) rfl)
    · exact Or.inr (px_TN_of (px_at_mem h2) rfl)
theorem px_ctx_m {X : pX} (h : px_ctxB X = true) {j : Nat} {q : Nat × Nat} (hj : px_find X.2.2.1 j = some q) (hb : Nat.ble 1000 q.1 = false) : ∃ r, px_nth px_mt q.1 = some r ∧ (Jvm.Cond.methodLink X.1 j r.1 ∈ px_TB ∨ Jvm.Cond.methodLinkNest X.1 j r.1 "WordsUnsaid" ∈ px_TN) := by
  have h1 := List.all_eq_true.mp (px_ctx_parts h).2.1 _ (px_find_mem hj)
  unfold px_mB at h1
  simp only [hb] at h1
  split at h1
  · cases h1
  · rename_i r hr
    rw [Bool.or_eq_true] at h1
    refine ⟨r, hr, ?_⟩
    rcases h1 with h2 | h2
    · exact Or.inl (px_TB_of (px_at_mem h2) rfl)
    · exact Or.inr (px_TN_of (px_at_mem h2) rfl)
theorem px_ctx_i {X : pX} (h : px_ctxB X = true) {j : Nat} {q : Nat × Nat} (hj : px_find X.2.2.1 j = some q) (hb : Nat.ble 1000 q.1 = true) : Jvm.Cond.methodLink X.1 j (px_iname q.1) ∈ px_TB := by
  have h1 := List.all_eq_true.mp (px_ctx_parts h).2.1 _ (px_find_mem hj)
  unfold px_mB at h1
  simp only [hb] at h1
  exact px_TB_of (px_at_mem h1) rfl
/-! a cell's facts -/
theorem px_tag_obj {a ci k : Nat} (h : (Nat.beq (px_tag a) (ci + 10) && Nat.blt k (px_len a)) = true) : a < px_N ∧ px_tag a = ci + 10 ∧ k < px_len a := by
  rw [Bool.and_eq_true] at h
  have h1 := Nat.eq_of_beq_eq_true h.1
  exact ⟨px_in_N (by omega), h1, by simpa [Nat.blt_eq] using h.2⟩
theorem px_ws_obj {D3 : Nat → ClassId} {ad : Nat → Nat} {h : pH} {a ci : Nat} (ha : a < px_N) (ht : px_tag a = ci + 10) : (px_ws D3 ad h)[a]? = some (ad a, .inr (ci, (List.range (px_len a)).map (px_fv ad h a))) := by
  rw [px_ws_at ha, px_ent_obj (by omega), ht]
  rfl
theorem px_ws_arr {D3 : Nat → ClassId} {ad : Nat → Nat} {h : pH} {a t : Nat} (ht : px_tag a = t) (h4 : t < 4) : (px_ws D3 ad h)[a]? = some (ad a, .inl (D3 t, px_len a, .inl (h a))) := by
  rw [px_ws_at (px_in_N (by omega)), px_ent_arr (by omega), ht]
theorem px_fs_at {ad : Nat → Nat} {h : pH} {a k : Nat} (hk : k < px_len a) : ((List.range (px_len a)).map (px_fv ad h a))[k]? = some (px_fv ad h a k) := by
  rw [List.getElem?_map, List.getElem?_range hk]
  rfl
theorem px_get_some {a ci k : Nat} {h : pH} {kk : pV → pR} {q : Int32 × pH} (e : px_get a ci k h kk = some q) : a < px_N ∧ px_tag a = ci + 10 ∧ k < px_len a ∧ ∃ v, (∀ ad, pv ad v = px_fv ad h a k) ∧ kk v = some q := by
  unfold px_get at e
  obtain ⟨h1, e⟩ := px_if_some e
  obtain ⟨h2, h3, h4⟩ := px_tag_obj h1
  refine ⟨h2, h3, h4, ?_⟩
  split at e
  · rename_i hr
    exact ⟨_, fun ad => by unfold px_fv; rw [hr]; rfl, e⟩
  · rename_i t hr
    split at e
    · rename_i ht
      exact ⟨_, fun ad => by unfold px_fv; rw [hr]; simp only [ht]; rfl, e⟩
    · rename_i ht
      split at e
      · rename_i ht2
        obtain ⟨h5, e⟩ := px_if_some e
        rw [Bool.and_eq_true] at h5
        have h6 : ¬ h a k < 0 := by
          have := of_decide_eq_true h5.1
          rw [Int32.le_iff_toInt_le] at this
          rw [Int32.lt_iff_toInt_lt]
          omega
        exact ⟨_, fun ad => by unfold px_fv; rw [hr]; simp only [ht, ht2]; rw [if_neg h6]; rfl, e⟩
      · rename_i ht2
        exact ⟨_, fun ad => by unfold px_fv; rw [hr]; simp only [ht, ht2]; rfl, e⟩
theorem px_put_some {a ci k : Nat} {v : pV} {h : pH} {kk : pH → pR} {q : Int32 × pH} (e : px_put a ci k v h kk = some q) : a < px_N ∧ px_tag a = ci + 10 ∧ k < px_len a ∧ ∃ (x : Int32) (r : vw_C) (ty : FieldType), kk (px_w h a k x) = some q ∧ (∀ ad, px_fv ad (px_w h a k x) a k = pv ad v) ∧ px_cl[ci]? = some r ∧ r.2.2 = px_len a ∧ parseFieldDescriptor (r.2.1 k).2.2.1 = some ty ∧ (r.2.1 k).2.2.2 = false ∧ (∀ ad, narrow ty (pv ad v) = pv ad v) ∧ (∀ ad, fits ty (pv ad v) = true) := by
  unfold px_put at e
  have e9 := px_if_some e
  clear e
  obtain ⟨h1, e⟩ := e9
  obtain ⟨h2, h3, h4⟩ := px_tag_obj h1
  refine ⟨h2, h3, h4, ?_⟩
  have hL := px_lay_of h2
  unfold px_layB at hL
  have hb4 : Nat.blt (px_tag a) 4 = false := by
    cases hq : Nat.blt (px_tag a) 4 with
    | false => rfl
    | true =>
      have := (Nat.blt_eq).mp hq
      omega
  simp only [hb4, Bool.and_eq_true] at hL
  have hci : px_tag a - 10 = ci := by omega
  rw [hci] at hL
  have hL2 := hL.2
  cases hr : px_cl[ci]? with
  | none => rw [hr] at hL2; cases hL2
  | some r =>
    rw [hr] at hL2
    simp only [Bool.and_eq_true] at hL2
    have hN : r.2.2 = px_len a := Nat.eq_of_beq_eq_true hL2.1
    have hd := List.all_eq_true.mp hL2.2 k (List.mem_range.mpr (by omega))
    unfold px_descB at hd
    have hw : px_w h a k = fun x => px_w h a k x := rfl
    split at e
    · rename_i hrf
      rw [hrf] at hd
      simp only [Bool.and_eq_true, Bool.not_eq_true'] at hd
      split at e
      · rename_i x
        refine ⟨x, r, .int, e, fun ad => ?_, rfl, hN, by rw [of_decide_eq_true hd.1]; rfl, hd.2, fun ad => rfl, fun ad => rfl⟩
        unfold px_fv
        rw [hrf]
        simp [px_w, pv]
      · cases e
    · rename_i t hrf
      rw [hrf] at hd
      split at e
      · rename_i ht
        simp only [ht, Bool.and_eq_true, Bool.not_eq_true'] at hd
        split at e
        · rename_i x
          have e9 := px_if_some e
          clear e
          obtain ⟨hx, e⟩ := e9
          rw [Bool.or_eq_true] at hx
          have hx' : x = 0 ∨ x = 1 := hx.imp of_decide_eq_true of_decide_eq_true
          refine ⟨x, r, .boolean, e, fun ad => ?_, rfl, hN, by rw [of_decide_eq_true hd.1]; rfl, hd.2, fun ad => ?_, fun ad => ?_⟩
          · unfold px_fv
            rw [hrf]
            simp only [ht]
            simp [px_w, pv]
          · rcases hx' with rfl | rfl <;> rfl
          · rcases hx' with rfl | rfl <;> rfl
        · cases e
      · rename_i ht
        simp only [ht] at hd
        split at e
        · rename_i ht2
          simp only [ht2, Bool.and_eq_true, Bool.not_eq_true'] at hd
          split at e
          · rename_i r0
            have e9 := px_if_some e
            clear e
            obtain ⟨hx, e⟩ := e9
            rw [Bool.and_eq_true] at hx
            have hr0 : r0 < px_N := by simpa [Nat.blt_eq] using hx.1
            have hr1 : r0 < 2 ^ 31 := Nat.lt_trans hr0 (by decide)
            refine ⟨nI r0, r, .array .byte, e, fun ad => ?_, rfl, hN, by rw [of_decide_eq_true hd.1]; rfl, hd.2, fun ad => rfl, fun ad => rfl⟩
            unfold px_fv
            rw [hrf]
            simp only [ht, ht2]
            have hwv : px_w h a k (nI r0) a k = nI r0 := by simp [px_w]
            rw [hwv, if_neg (nI_pos hr1), nI_clamp hr1]
            rfl
          · cases e
        · cases e
theorem px_ok_some {t a : Nat} {i : Int32} (h : px_ok t a i = true) : px_tag a = t ∧ vp_in i (px_len a) := by
  unfold px_ok at h
  rw [Bool.and_eq_true, Bool.and_eq_true] at h
  refine ⟨Nat.eq_of_beq_eq_true h.1, fun q => ?_⟩
  have h1 := of_decide_eq_true h.2.1
  have h2 : i.toNatClampNeg < px_len a := by simpa [Nat.blt_eq] using h.2.2
  rcases q with q | q
  · rw [Int32.lt_iff_toInt_lt] at q
    rw [Int32.le_iff_toInt_le] at h1
    omega
  · omega
theorem px_popn_some {n : Nat} {st as r : List pV} (h : px_popn n st = some (as, r)) : st = as.reverse ++ r ∧ as.length = n := by
  induction n generalizing st as r with
  | zero =>
    cases h
    exact ⟨rfl, rfl⟩
  | succ n ih =>
    unfold px_popn at h
    split at h
    · cases h
    · rename_i v rr
      split at h
      · cases h
      · rename_i q hq
        cases h
        obtain ⟨h1, h2⟩ := ih (as := q.1) (r := q.2) hq
        exact ⟨by rw [h1]; simp, by simp [h2]⟩
theorem px_low_some {ad : Nat → Nat} {r : List pV} (h : px_low r = true) : ((r.map (pv ad)).map fun v => v.category).sum ≤ 8 := by
  have h1 : (r.map px_cat).sum ≤ 8 := Nat.le_of_ble_eq_true h
  have h2 : (r.map (pv ad)).map (fun v => v.category) = r.map px_cat := by
    rw [List.map_map]
    apply List.map_congr_left
    intro v _
    match v with
    | .inl x => rfl
    | .inr (.inl x) => rfl
    | .inr (.inr x) => rfl
  rw [h2]
  exact h1
