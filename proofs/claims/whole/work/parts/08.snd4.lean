/-! Fields, rows, switches, returns: an instruction at a time -/
theorem px_s_ldc {d : Nat} {M : pM} {C : pC} {n pc : Nat} {ls : pL} {st : List pV} {h : pH} {q : Int32 × pH} {k : pK} {j : Nat} (hM : px_ctxB M.1 = true) (hd : decode M.2.1 pc = .ok (.ldc j, n)) (e : px_step M.1 M.2.2.2 C (.ldc j) n pc ls st h k = some q) (kk : ∀ pc' ls' st' h', k pc' ls' st' h' = some q → px_G d M pc' ls' st' h' q) : px_G d M pc ls st h q := by
  have e9 := px_if_some e
  clear e
  obtain ⟨hn, e⟩ := e9
  have hn := Nat.eq_of_beq_eq_true hn
  subst hn
  split at e
  · rename_i qq hj
    intro p l e0 s m args below meth c D D3 ad H locs lsA hF hP hS hh
    obtain ⟨hx, hb, hml, hr, hown, hts, hlocks, hK, hN, hi⟩ := id hF
    exact lv_ldc hx hb hown (hts _ (px_ctx_c hM hj)) hd (by rw [← px_k_eq qq.1]; exact (kk _ _ _ _ e p l e0 s m args below meth c D D3 ad H locs lsA hF hP hS hh))
  · cases e
theorem px_s_ldc_w {d : Nat} {M : pM} {C : pC} {n pc : Nat} {ls : pL} {st : List pV} {h : pH} {q : Int32 × pH} {k : pK} {j : Nat} (hM : px_ctxB M.1 = true) (hd : decode M.2.1 pc = .ok (.ldc_w j, n)) (e : px_step M.1 M.2.2.2 C (.ldc_w j) n pc ls st h k = some q) (kk : ∀ pc' ls' st' h', k pc' ls' st' h' = some q → px_G d M pc' ls' st' h' q) : px_G d M pc ls st h q := by
  have e9 := px_if_some e
  clear e
  obtain ⟨hn, e⟩ := e9
  have hn := Nat.eq_of_beq_eq_true hn
  subst hn
  split at e
  · rename_i qq hj
    intro p l e0 s m args below meth c D D3 ad H locs lsA hF hP hS hh
    obtain ⟨hx, hb, hml, hr, hown, hts, hlocks, hK, hN, hi⟩ := id hF
    exact lv_ldcw hx hb hown (hts _ (px_ctx_c hM hj)) hd (by rw [← px_k_eq qq.1]; exact (kk _ _ _ _ e p l e0 s m args below meth c D D3 ad H locs lsA hF hP hS hh))
  · cases e
theorem px_s_ldc2_w {d : Nat} {M : pM} {C : pC} {n pc : Nat} {ls : pL} {st : List pV} {h : pH} {q : Int32 × pH} {k : pK} {j : Nat} (hM : px_ctxB M.1 = true) (hd : decode M.2.1 pc = .ok (.ldc2_w j, n)) (e : px_step M.1 M.2.2.2 C (.ldc2_w j) n pc ls st h k = some q) (kk : ∀ pc' ls' st' h', k pc' ls' st' h' = some q → px_G d M pc' ls' st' h' q) : px_G d M pc ls st h q := by
  have e9 := px_if_some e
  clear e
  obtain ⟨hn, e⟩ := e9
  have hn := Nat.eq_of_beq_eq_true hn
  subst hn
  split at e
  · rename_i qq hj
    intro p l e0 s m args below meth c D D3 ad H locs lsA hF hP hS hh
    obtain ⟨hx, hb, hml, hr, hown, hts, hlocks, hK, hN, hi⟩ := id hF
    exact lv_ldc2 hx hb hown (hts _ (px_ctx_l hM hj)) hd (kk _ _ _ _ e p l e0 s m args below meth c D D3 ad H locs lsA hF hP hS hh)
  · cases e
theorem px_c_int {v : Int} (h1 : -2147483648 ≤ v) (h2 : v ≤ 2147483647) : (px_c v).toInt = v := by
  rw [px_c_eq]
  exact Int32.toInt_ofInt_of_le (by omega) (by omega)
theorem px_ts_some {offs : List Int} {v0 d : Int} {x : Int32} {f : Int → pR} {q : Int32 × pH} (hr : -2147483648 ≤ v0 ∧ v0 + (offs.length : Int) ≤ 2147483648) (e : px_ts offs v0 d x f = some q) :
    ((x.toInt < v0 ∨ v0 + (offs.length : Int) - 1 < x.toInt) ∧ f d = some q) ∨ ∃ off, ¬ x.toInt < v0 ∧ ¬ v0 + (offs.length : Int) - 1 < x.toInt ∧ offs[(x.toInt - v0).toNat]? = some off ∧ f off = some q := by
  induction offs generalizing v0 with
  | nil =>
    left
    refine ⟨?_, e⟩
    simp only [List.length_nil]
    omega
  | cons a l ih =>
    have hl : ((a :: l).length : Int) = (l.length : Int) + 1 := by simp
    have hv : (px_c v0).toInt = v0 := px_c_int hr.1 (by rw [hl] at hr; omega)
    unfold px_ts at e
    by_cases hxv : x = px_c v0
    · rw [if_pos hxv] at e
      right
      have hx : x.toInt = v0 := by rw [hxv, hv]
      refine ⟨a, by omega, by rw [hl]; omega, ?_, e⟩
      have : (x.toInt - v0).toNat = 0 := by omega
      rw [this]
      rfl
    · rw [if_neg hxv] at e
      have hne : x.toInt ≠ v0 := fun q => hxv (Int32.toInt_inj.mp (by rw [hv]; exact q))
      rcases ih (v0 := v0 + 1) (by rw [hl] at hr; omega) e with ⟨h1, h2⟩ | ⟨off, h1, h2, h3, h4⟩
      · left
        refine ⟨?_, h2⟩
        rw [hl]
        omega
      · right
        refine ⟨off, by omega, by rw [hl]; omega, ?_, h4⟩
        have : (x.toInt - v0).toNat = (x.toInt - (v0 + 1)).toNat + 1 := by omega
        rw [this, List.getElem?_cons_succ]
        exact h3
theorem px_lk_some {ps : List (Int × Int)} {d : Int} {x : Int32} {f : Int → pR} {q : Int32 × pH} (hr : px_sorted ps = true) (e : px_lk ps d x f = some q) : f (Op.lookupswitch.offset ps d x.toInt) = some q := by
  induction ps with
  | nil =>
    have : Op.lookupswitch.offset [] d x.toInt = d := rfl
    rw [this]
    exact e
  | cons a l ih =>
    unfold px_sorted at hr
    rw [Bool.and_eq_true, Bool.and_eq_true] at hr
    have hv : (px_c a.1).toInt = a.1 := px_c_int (of_decide_eq_true hr.1.1) (of_decide_eq_true hr.1.2)
    unfold px_lk at e
    obtain ⟨a1, a2⟩ := a
    rw [Op.lookupswitch.offset_cons]
    by_cases hxv : x = px_c a1
    · rw [if_pos hxv] at e
      rw [if_pos (by rw [hxv]; exact hv.symm)]
      exact e
    · rw [if_neg hxv] at e
      rw [if_neg (fun q => hxv (Int32.toInt_inj.mp (by rw [hv]; exact q.symm)))]
      exact ih hr.2 e
theorem px_s_tableswitch {d : Nat} {M : pM} {C : pC} {n pc : Nat} {ls : pL} {st : List pV} {h : pH} {q : Int32 × pH} {k : pK} {d0 lo hi0 : Int} {offs : Array Int} (hM : px_ctxB M.1 = true) (hd : decode M.2.1 pc = .ok (.tableswitch d0 lo hi0 offs, n)) (e : px_step M.1 M.2.2.2 C (.tableswitch d0 lo hi0 offs) n pc ls st h k = some q) (kk : ∀ pc' ls' st' h', k pc' ls' st' h' = some q → px_G d M pc' ls' st' h' q) : px_G d M pc ls st h q := by
  have e9 := px_if_some e
  clear e
  obtain ⟨hn, e⟩ := e9
  rw [Bool.and_eq_true, Bool.and_eq_true] at hn
  obtain ⟨h1, h2, h3⟩ := hn
  have h1 := of_decide_eq_true h1
  have h2 := of_decide_eq_true h2
  have h3 := of_decide_eq_true h3
  have e9 := px_i1_some e
  clear e
  obtain ⟨x, r, rfl, e⟩ := e9
  rcases px_ts_some ⟨h2, by omega⟩ e with ⟨g1, g2⟩ | ⟨off, g1, g2, g3, g4⟩
  · have e9 := px_tg_some g2
    obtain ⟨t, ht, e1⟩ := e9
    intro p l e0 s m args below meth c D D3 ad H locs lsA hF hP hS hh
    obtain ⟨hx, hb, hml, hr, hown, hts, hlocks, hK, hN, hi⟩ := id hF
    refine lv_tableOut hx hb hd ?_ ht (kk _ _ _ _ e1 p l e0 s m args below meth c D D3 ad H locs lsA hF hP hS hh)
    omega
  · have e9 := px_tg_some g4
    obtain ⟨t, ht, e1⟩ := e9
    intro p l e0 s m args below meth c D D3 ad H locs lsA hF hP hS hh
    obtain ⟨hx, hb, hml, hr, hown, hts, hlocks, hK, hN, hi⟩ := id hF
    refine lv_tableIn hx hb hd g1 (by omega) ?_ ht (kk _ _ _ _ e1 p l e0 s m args below meth c D D3 ad H locs lsA hF hP hS hh)
    rw [← Array.getElem?_toList]
    exact g3
theorem px_s_lookupswitch {d : Nat} {M : pM} {C : pC} {n pc : Nat} {ls : pL} {st : List pV} {h : pH} {q : Int32 × pH} {k : pK} {d0 : Int} {ps : Array (Int × Int)} (hM : px_ctxB M.1 = true) (hd : decode M.2.1 pc = .ok (.lookupswitch d0 ps, n)) (e : px_step M.1 M.2.2.2 C (.lookupswitch d0 ps) n pc ls st h k = some q) (kk : ∀ pc' ls' st' h', k pc' ls' st' h' = some q → px_G d M pc' ls' st' h' q) : px_G d M pc ls st h q := by
  have e9 := px_if_some e
  clear e
  obtain ⟨hn, e⟩ := e9
  rw [Bool.and_eq_true] at hn
  have e9 := px_i1_some e
  clear e
  obtain ⟨x, r, rfl, e⟩ := e9
  have g2 := px_lk_some hn.2 e
  have e9 := px_tg_some g2
  obtain ⟨t, ht, e1⟩ := e9
  intro p l e0 s m args below meth c D D3 ad H locs lsA hF hP hS hh
  obtain ⟨hx, hb, hml, hr, hown, hts, hlocks, hK, hN, hi⟩ := id hF
  exact lv_lookup hx hb hd hn.1 rfl ht (kk _ _ _ _ e1 p l e0 s m args below meth c D D3 ad H locs lsA hF hP hS hh)
theorem px_s_getfield {d : Nat} {M : pM} {C : pC} {n pc : Nat} {ls : pL} {st : List pV} {h : pH} {q : Int32 × pH} {k : pK} {j : Nat} (hM : px_ctxB M.1 = true) (hd : decode M.2.1 pc = .ok (.getfield j, n)) (e : px_step M.1 M.2.2.2 C (.getfield j) n pc ls st h k = some q) (kk : ∀ pc' ls' st' h', k pc' ls' st' h' = some q → px_G d M pc' ls' st' h' q) : px_G d M pc ls st h q := by
  have e9 := px_if_some e
  clear e
  obtain ⟨hn, e⟩ := e9
  have hn := Nat.eq_of_beq_eq_true hn
  subst hn
  split at e
  · rename_i a r
    split at e
    · rename_i qq hj
      obtain ⟨hN0, ht, hk, v, hv, e1⟩ := px_get_some e
      obtain ⟨cr, hcr, hkN, hT, hl⟩ := px_ctx_f hM hj
      intro p l e0 s m args below meth c D D3 ad H locs lsA hF hP hS hh
      obtain ⟨hx, hb, hml, hr, hown, hts, hlocks, hK, hN, hi⟩ := id hF
      have hk1 := (kk _ _ _ _ e1 p l e0 s m args below meth c D D3 ad H locs lsA hF hP hS hh)
      have hin : ∀ w ∈ u_ws cr.1 cr.2.1 cr.2.2, w ∈ px_TB := px_cl_in hcr
      have hsame : ∀ x, s.fieldFound? (cr.2.1 qq.2.1).1 (cr.2.1 qq.2.1).2.1 (cr.2.1 qq.2.1).2.2.1 = some x → s.fieldFound? cr.1 (cr.2.1 qq.2.1).2.1 (cr.2.1 qq.2.1).2.2.1 = some x := fun x hx9 => by rw [← hT]; exact hx9
      have hvv := px_fs_at (ad := ad) (h := h) hk
      rw [← hv ad] at hvv
      rcases hl with hl | hl
      · exact va_get hx hb hts hin hown hK hP a (px_ws_obj hN0 ht) hcr qq.2.1 hkN (hts _ hl) hsame hvv hd hk1
      · exact va_getN hx hb hts hin hown hK hP a (px_ws_obj hN0 ht) hcr qq.2.1 hkN (va_Nw.use rfl (hN _ hl)) hsame hvv hd hk1
    · cases e
  · cases e
theorem px_s_putfield {d : Nat} {M : pM} {C : pC} {n pc : Nat} {ls : pL} {st : List pV} {h : pH} {q : Int32 × pH} {k : pK} {j : Nat} (hM : px_ctxB M.1 = true) (hd : decode M.2.1 pc = .ok (.putfield j, n)) (e : px_step M.1 M.2.2.2 C (.putfield j) n pc ls st h k = some q) (kk : ∀ pc' ls' st' h', k pc' ls' st' h' = some q → px_G d M pc' ls' st' h' q) : px_G d M pc ls st h q := by
  have e9 := px_if_some e
  clear e
  obtain ⟨hn, e⟩ := e9
  have hn := Nat.eq_of_beq_eq_true hn
  subst hn
  split at e
  · rename_i v a r
    split at e
    · rename_i qq hj
      obtain ⟨hN0, ht, hk, x, r2, ty, e1, hu, hr2, hn2, hd2, hf2, hnar, hfit⟩ := px_put_some e
      obtain ⟨cr, hcr, hkN, hT, hl⟩ := px_ctx_f hM hj
      have hcr2 : cr = r2 := Option.some.inj (hcr.symm.trans hr2)
      subst hcr2
      obtain ⟨hnm, ty0, hty⟩ := px_cl_ty hcr
      intro p l e0 s m args below meth c D D3 ad H locs lsA hF hP hS hh
      obtain ⟨hx, hb, hml, hr, hown, hts, hlocks, hK, hN, hi⟩ := id hF
      have hin : ∀ w ∈ u_ws cr.1 cr.2.1 cr.2.2, w ∈ px_TB := px_cl_in hcr
      have hsame : ∀ x, s.fieldFound? (cr.2.1 qq.2.1).1 (cr.2.1 qq.2.1).2.1 (cr.2.1 qq.2.1).2.2.1 = some x → s.fieldFound? cr.1 (cr.2.1 qq.2.1).2.1 (cr.2.1 qq.2.1).2.2.1 = some x := fun x hx9 => by rw [← hT]; exact hx9
      have hset : (px_ws D3 ad h).set a (ad a, .inr (qq.1, ((List.range (px_len a)).map (px_fv ad h a)).set qq.2.1 (pv ad v))) = px_ws D3 ad (px_w h a qq.2.1 x) := by
        rw [px_fset (hu ad)]
        have h9 := px_ent_obj (D3 := D3) (ad := ad) (h := px_w h a qq.2.1 x) (a := a) (by omega)
        rw [ht] at h9
        have h8 : qq.1 + 10 - 10 = qq.1 := by omega
        rw [h8] at h9
        rw [← h9]
        exact px_ws_set hN0 (fun b hb9 => px_w_ne hb9)
      have hlen : qq.2.1 < ((List.range (px_len a)).map (px_fv ad h a)).length := by simpa using hk
      rcases hl with hl | hl
      · exact va_put hx hb hts hin ty0 hty hnm hown hK hP (px_DD hi) hS a (px_ws_obj hN0 ht) hcr qq.2.1 hkN (hts _ hl) hsame hf2 hd2 (hnar ad) (hfit ad) hlen hd (fun H1 locs1 hP1 _ hS1 => by
          rw [hset] at hP1
          exact (kk _ _ _ _ e1 p l e0 s m args below meth c D D3 ad H1 locs1 lsA hF hP1 hS1 hh))
      · exact va_putN hx hb hts hin ty0 hty hnm hown hK hP (px_DD hi) hS a (px_ws_obj hN0 ht) hcr qq.2.1 hkN (va_Nw.use rfl (hN _ hl)) hsame hf2 hd2 (hnar ad) (hfit ad) hlen hd (fun H1 locs1 hP1 _ hS1 => by
          rw [hset] at hP1
          exact (kk _ _ _ _ e1 p l e0 s m args below meth c D D3 ad H1 locs1 lsA hF hP1 hS1 hh))
    · cases e
  · cases e
theorem px_tys_at {D3 : Nat → ClassId} {t : Nat} (h : t < 4) : ∃ ty, (px_tys D3)[t]? = some (D3 t, ty) := by
  match t, h with
  | 0, _ => exact ⟨_, rfl⟩
  | 1, _ => exact ⟨_, rfl⟩
  | 2, _ => exact ⟨_, rfl⟩
  | 3, _ => exact ⟨_, rfl⟩
  | t + 4, h => omega
theorem px_aset {D3 : Nat → ClassId} {ad : Nat → Nat} {h : pH} {a t k : Nat} {x : Int32} (ht : px_tag a = t) (h4 : t < 4) : (px_ws D3 ad h).set a (ad a, .inl (D3 t, px_len a, .inl (upd (h a) k x))) = px_ws D3 ad (px_w h a k x) := by
  have h9 := px_ent_arr (D3 := D3) (ad := ad) (h := px_w h a k x) (a := a) (by omega)
  rw [ht, px_w_self] at h9
  rw [← h9]
  exact px_ws_set (px_in_N (by omega)) (fun b hb9 => px_w_ne hb9)
theorem px_s_arraylength {d : Nat} {M : pM} {C : pC} {n pc : Nat} {ls : pL} {st : List pV} {h : pH} {q : Int32 × pH} {k : pK} (hM : px_ctxB M.1 = true) (hd : decode M.2.1 pc = .ok (.arraylength, n)) (e : px_step M.1 M.2.2.2 C (.arraylength) n pc ls st h k = some q) (kk : ∀ pc' ls' st' h', k pc' ls' st' h' = some q → px_G d M pc' ls' st' h' q) : px_G d M pc ls st h q := by
  have e9 := px_if_some e
  clear e
  obtain ⟨hn, e⟩ := e9
  have hn := Nat.eq_of_beq_eq_true hn
  subst hn
  split at e
  · rename_i a r
    have e9 := px_if_some e
    clear e
    obtain ⟨h4, e⟩ := e9
    have h4 : px_tag a < 4 := by simpa [Nat.blt_eq] using h4
    intro p l e0 s m args below meth c D D3 ad H locs lsA hF hP hS hh
    obtain ⟨hx, hb, hml, hr, hown, hts, hlocks, hK, hN, hi⟩ := id hF
    obtain ⟨ty, hty⟩ := px_tys_at (D3 := D3) h4
    exact va_alen hx hb hK hP a (px_tag a) (px_ws_arr rfl h4) hty rfl hd (kk _ _ _ _ e p l e0 s m args below meth c D D3 ad H locs lsA hF hP hS hh)
  · cases e
theorem px_s_iaload {d : Nat} {M : pM} {C : pC} {n pc : Nat} {ls : pL} {st : List pV} {h : pH} {q : Int32 × pH} {k : pK} (hM : px_ctxB M.1 = true) (hd : decode M.2.1 pc = .ok (.iaload, n)) (e : px_step M.1 M.2.2.2 C (.iaload) n pc ls st h k = some q) (kk : ∀ pc' ls' st' h', k pc' ls' st' h' = some q → px_G d M pc' ls' st' h' q) : px_G d M pc ls st h q := by
  have e9 := px_if_some e
  clear e
  obtain ⟨hn, e⟩ := e9
  have hn := Nat.eq_of_beq_eq_true hn
  subst hn
  split at e
  · rename_i i a r
    have e9 := px_if_some e
    clear e
    obtain ⟨h4, e⟩ := e9
    obtain ⟨ht, hin⟩ := px_ok_some h4
    intro p l e0 s m args below meth c D D3 ad H locs lsA hF hP hS hh
    obtain ⟨hx, hb, hml, hr, hown, hts, hlocks, hK, hN, hi⟩ := id hF
    exact va_iald hx hb hK hP a 0 (px_ws_arr ht (by decide)) rfl hin hd (kk _ _ _ _ e p l e0 s m args below meth c D D3 ad H locs lsA hF hP hS hh)
  · cases e
theorem px_s_caload {d : Nat} {M : pM} {C : pC} {n pc : Nat} {ls : pL} {st : List pV} {h : pH} {q : Int32 × pH} {k : pK} (hM : px_ctxB M.1 = true) (hd : decode M.2.1 pc = .ok (.caload, n)) (e : px_step M.1 M.2.2.2 C (.caload) n pc ls st h k = some q) (kk : ∀ pc' ls' st' h', k pc' ls' st' h' = some q → px_G d M pc' ls' st' h' q) : px_G d M pc ls st h q := by
  have e9 := px_if_some e
  clear e
  obtain ⟨hn, e⟩ := e9
  have hn := Nat.eq_of_beq_eq_true hn
  subst hn
  split at e
  · rename_i i a r
    have e9 := px_if_some e
    clear e
    obtain ⟨h4, e⟩ := e9
    obtain ⟨ht, hin⟩ := px_ok_some h4
    intro p l e0 s m args below meth c D D3 ad H locs lsA hF hP hS hh
    obtain ⟨hx, hb, hml, hr, hown, hts, hlocks, hK, hN, hi⟩ := id hF
    exact va_cald hx hb hK hP a 2 (px_ws_arr ht (by decide)) rfl hin hd (kk _ _ _ _ e p l e0 s m args below meth c D D3 ad H locs lsA hF hP hS hh)
  · cases e
theorem px_s_baload {d : Nat} {M : pM} {C : pC} {n pc : Nat} {ls : pL} {st : List pV} {h : pH} {q : Int32 × pH} {k : pK} (hM : px_ctxB M.1 = true) (hd : decode M.2.1 pc = .ok (.baload, n)) (e : px_step M.1 M.2.2.2 C (.baload) n pc ls st h k = some q) (kk : ∀ pc' ls' st' h', k pc' ls' st' h' = some q → px_G d M pc' ls' st' h' q) : px_G d M pc ls st h q := by
  have e9 := px_if_some e
  clear e
  obtain ⟨hn, e⟩ := e9
  have hn := Nat.eq_of_beq_eq_true hn
  subst hn
  split at e
  · rename_i i a r
    have e9 := px_if_some e
    clear e
    obtain ⟨h4, e⟩ := e9
    rw [Bool.or_eq_true] at h4
    intro p l e0 s m args below meth c D D3 ad H locs lsA hF hP hS hh
    obtain ⟨hx, hb, hml, hr, hown, hts, hlocks, hK, hN, hi⟩ := id hF
    rcases h4 with h4 | h4
    · obtain ⟨ht, hin⟩ := px_ok_some h4
      exact va_bald hx hb hK hP a 1 (px_ws_arr ht (by decide)) rfl hin hd (kk _ _ _ _ e p l e0 s m args below meth c D D3 ad H locs lsA hF hP hS hh)
    · obtain ⟨ht, hin⟩ := px_ok_some h4
      exact va_zald hx hb hK hP a 3 (px_ws_arr ht (by decide)) rfl hin hd (kk _ _ _ _ e p l e0 s m args below meth c D D3 ad H locs lsA hF hP hS hh)
  · cases e
theorem px_s_iastore {d : Nat} {M : pM} {C : pC} {n pc : Nat} {ls : pL} {st : List pV} {h : pH} {q : Int32 × pH} {k : pK} (hM : px_ctxB M.1 = true) (hd : decode M.2.1 pc = .ok (.iastore, n)) (e : px_step M.1 M.2.2.2 C (.iastore) n pc ls st h k = some q) (kk : ∀ pc' ls' st' h', k pc' ls' st' h' = some q → px_G d M pc' ls' st' h' q) : px_G d M pc ls st h q := by
  have e9 := px_if_some e
  clear e
  obtain ⟨hn, e⟩ := e9
  have hn := Nat.eq_of_beq_eq_true hn
  subst hn
  split at e
  · rename_i x i a r
    have e9 := px_if_some e
    clear e
    obtain ⟨h4, e⟩ := e9
    obtain ⟨ht, hin⟩ := px_ok_some h4
    intro p l e0 s m args below meth c D D3 ad H locs lsA hF hP hS hh
    obtain ⟨hx, hb, hml, hr, hown, hts, hlocks, hK, hN, hi⟩ := id hF
    exact va_iast hx hb hK hP (px_DD hi) hS a 0 (px_ws_arr ht (by decide)) rfl hin hd (fun H1 locs1 hP1 _ hS1 => by
        rw [px_aset ht (by decide)] at hP1
        exact (kk _ _ _ _ e p l e0 s m args below meth c D D3 ad H1 locs1 lsA hF hP1 hS1 hh))
  · cases e
theorem px_s_castore {d : Nat} {M : pM} {C : pC} {n pc : Nat} {ls : pL} {st : List pV} {h : pH} {q : Int32 × pH} {k : pK} (hM : px_ctxB M.1 = true) (hd : decode M.2.1 pc = .ok (.castore, n)) (e : px_step M.1 M.2.2.2 C (.castore) n pc ls st h k = some q) (kk : ∀ pc' ls' st' h', k pc' ls' st' h' = some q → px_G d M pc' ls' st' h' q) : px_G d M pc ls st h q := by
  have e9 := px_if_some e
  clear e
  obtain ⟨hn, e⟩ := e9
  have hn := Nat.eq_of_beq_eq_true hn
  subst hn
  split at e
  · rename_i x i a r
    have e9 := px_if_some e
    clear e
    obtain ⟨h4, e⟩ := e9
    obtain ⟨ht, hin⟩ := px_ok_some h4
    intro p l e0 s m args below meth c D D3 ad H locs lsA hF hP hS hh
    obtain ⟨hx, hb, hml, hr, hown, hts, hlocks, hK, hN, hi⟩ := id hF
    exact va_cast hx hb hK hP (px_DD hi) hS a 2 (px_ws_arr ht (by decide)) rfl hin hd (fun H1 locs1 hP1 _ hS1 => by
        rw [px_aset ht (by decide)] at hP1
        exact (kk _ _ _ _ e p l e0 s m args below meth c D D3 ad H1 locs1 lsA hF hP1 hS1 hh))
  · cases e
theorem px_s_bastore {d : Nat} {M : pM} {C : pC} {n pc : Nat} {ls : pL} {st : List pV} {h : pH} {q : Int32 × pH} {k : pK} (hM : px_ctxB M.1 = true) (hd : decode M.2.1 pc = .ok (.bastore, n)) (e : px_step M.1 M.2.2.2 C (.bastore) n pc ls st h k = some q) (kk : ∀ pc' ls' st' h', k pc' ls' st' h' = some q → px_G d M pc' ls' st' h' q) : px_G d M pc ls st h q := by
  have e9 := px_if_some e
  clear e
  obtain ⟨hn, e⟩ := e9
  have hn := Nat.eq_of_beq_eq_true hn
  subst hn
  split at e
  · rename_i x i a r
    split at e
    · have e9 := px_if_some e
      clear e
      obtain ⟨h4, e⟩ := e9
      obtain ⟨ht, hin⟩ := px_ok_some h4
      intro p l e0 s m args below meth c D D3 ad H locs lsA hF hP hS hh
      obtain ⟨hx, hb, hml, hr, hown, hts, hlocks, hK, hN, hi⟩ := id hF
      exact va_zast hx hb hK hP (px_DD hi) hS a 3 (px_ws_arr ht (by decide)) rfl hin hd (fun H1 locs1 hP1 _ hS1 => by
          rw [px_aset ht (by decide)] at hP1
          exact (kk _ _ _ _ e p l e0 s m args below meth c D D3 ad H1 locs1 lsA hF hP1 hS1 hh))
    · have e9 := px_if_some e
      clear e
      obtain ⟨h4, e⟩ := e9
      obtain ⟨ht, hin⟩ := px_ok_some h4
      intro p l e0 s m args below meth c D D3 ad H locs lsA hF hP hS hh
      obtain ⟨hx, hb, hml, hr, hown, hts, hlocks, hK, hN, hi⟩ := id hF
      exact va_bast hx hb hK hP (px_DD hi) hS a 1 (px_ws_arr ht (by decide)) rfl hin hd (fun H1 locs1 hP1 _ hS1 => by
          rw [px_aset ht (by decide)] at hP1
          exact (kk _ _ _ _ e p l e0 s m args below meth c D D3 ad H1 locs1 lsA hF hP1 hS1 hh))
  · cases e
theorem px_s_ireturn {d : Nat} {M : pM} {C : pC} {n pc : Nat} {ls : pL} {st : List pV} {h : pH} {q : Int32 × pH} {k : pK} (hM : px_ctxB M.1 = true) (hd : decode M.2.1 pc = .ok (.ireturn, n)) (e : px_step M.1 M.2.2.2 C (.ireturn) n pc ls st h k = some q) (kk : ∀ pc' ls' st' h', k pc' ls' st' h' = some q → px_G d M pc' ls' st' h' q) : px_G d M pc ls st h q := by
  have e9 := px_if_some e
  clear e
  obtain ⟨hn, e⟩ := e9
  have hn := Nat.eq_of_beq_eq_true hn
  subst hn
  split at e
  · rename_i x
    obtain ⟨X, b, nL, rt⟩ := M
    dsimp only at e
    intro p l e0 s m args below meth c D D3 ad H locs lsA hF hP hS hh
    obtain ⟨hx, hb, hml, hr, hown, hts, hlocks, hK, hN, hi⟩ := id hF
    split at e
    · cases e
      exact W.iret hx hb hr (fun t ht hW => ⟨⟨x, h, rfl, ⟨rfl, rfl⟩, by rw [ht]; exact hP, va_K.moved hW.alike hK⟩, hS.F ht⟩) hS.2.2 hd
    · have e9 := px_if_some e
      clear e
      obtain ⟨h01, e⟩ := e9
      cases e
      rw [Bool.or_eq_true] at h01
      have h01 : x = 0 ∨ x = 1 := h01.imp of_decide_eq_true of_decide_eq_true
      exact W.zret hx hb hr (by rcases h01 with rfl | rfl <;> rfl) (fun t ht hW => ⟨⟨x, h, rfl, ⟨rfl, rfl⟩, by rw [ht]; exact hP, va_K.moved hW.alike hK⟩, hS.F ht⟩) hS.2.2 hd
    · cases e
  · cases e
theorem px_s_return_ {d : Nat} {M : pM} {C : pC} {n pc : Nat} {ls : pL} {st : List pV} {h : pH} {q : Int32 × pH} {k : pK} (hM : px_ctxB M.1 = true) (hd : decode M.2.1 pc = .ok (.return_, n)) (e : px_step M.1 M.2.2.2 C (.return_) n pc ls st h k = some q) (kk : ∀ pc' ls' st' h', k pc' ls' st' h' = some q → px_G d M pc' ls' st' h' q) : px_G d M pc ls st h q := by
  have e9 := px_if_some e
  clear e
  obtain ⟨hn, e⟩ := e9
  have hn := Nat.eq_of_beq_eq_true hn
  subst hn
  obtain ⟨X, b, nL, rt⟩ := M
  dsimp only at e
  split at e
  · cases e
    intro p l e0 s m args below meth c D D3 ad H locs lsA hF hP hS hh
    obtain ⟨hx, hb, hml, hr, hown, hts, hlocks, hK, hN, hi⟩ := id hF
    exact W.vret hx hb hr (fun t ht hW => ⟨⟨h, rfl, rfl, by rw [ht]; exact hP, va_K.moved hW.alike hK⟩, hS.F ht⟩) hS.2.2 hd
  · cases e
