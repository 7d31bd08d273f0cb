/-! What the pure machine does the machine does: an instruction at a time -/
theorem px_b8 {v : Int} (h1 : -128 ≤ v) (h2 : v ≤ 127) : (Int8.ofInt v).toInt32 = px_c v := by
  apply Int32.toInt_inj.mp
  rw [Int8.toInt_toInt32]
  rw [px_c_eq]
  rw [Int8.toInt_ofInt_of_le (by omega) (by omega), Int32.toInt_ofInt_of_le (by omega) (by omega)]
theorem px_b16 {v : Int} (h1 : -32768 ≤ v) (h2 : v ≤ 32767) : (Int16.ofInt v).toInt32 = px_c v := by
  apply Int32.toInt_inj.mp
  rw [Int16.toInt_toInt32]
  rw [px_c_eq]
  rw [Int16.toInt_ofInt_of_le (by omega) (by omega), Int32.toInt_ofInt_of_le (by omega) (by omega)]
theorem px_s_iconst {d : Nat} {M : pM} {C : pC} {n pc : Nat} {ls : pL} {st : List pV} {h : pH} {q : Int32 × pH} {k : pK} {v : Int} (hd : decode M.2.1 pc = .ok (.iconst v, n)) (e : px_step M.1 M.2.2.2 C (.iconst v) n pc ls st h k = some q) (kk : ∀ pc' ls' st' h', k pc' ls' st' h' = some q → px_G d M pc' ls' st' h' q) : px_G d M pc ls st h q := by
  have e9 := px_if_some e
  clear e
  obtain ⟨hn, e⟩ := e9
  have hn := Nat.eq_of_beq_eq_true hn
  subst hn
  intro p l e0 s m args below meth c D D3 ad H locs lsA hF hP hS hh
  obtain ⟨hx, hb, hml, hr, hown, hts, hlocks, hK, hN, hi⟩ := id hF
  exact lv_iconst hx hb hd (px_c_eq v).symm (kk _ _ _ _ e p l e0 s m args below meth c D D3 ad H locs lsA hF hP hS hh)
theorem px_s_bipush {d : Nat} {M : pM} {C : pC} {n pc : Nat} {ls : pL} {st : List pV} {h : pH} {q : Int32 × pH} {k : pK} {v : Int} (hd : decode M.2.1 pc = .ok (.bipush v, n)) (e : px_step M.1 M.2.2.2 C (.bipush v) n pc ls st h k = some q) (kk : ∀ pc' ls' st' h', k pc' ls' st' h' = some q → px_G d M pc' ls' st' h' q) : px_G d M pc ls st h q := by
  have e9 := px_if_some e
  clear e
  obtain ⟨hn, e⟩ := e9
  rw [Bool.and_eq_true, Bool.and_eq_true] at hn
  obtain ⟨hn, h1, h2⟩ := hn
  have hn := Nat.eq_of_beq_eq_true hn
  subst hn
  intro p l e0 s m args below meth c D D3 ad H locs lsA hF hP hS hh
  obtain ⟨hx, hb, hml, hr, hown, hts, hlocks, hK, hN, hi⟩ := id hF
  exact lv_bipush hx hb hd (px_b8 (of_decide_eq_true h1) (of_decide_eq_true h2)) (kk _ _ _ _ e p l e0 s m args below meth c D D3 ad H locs lsA hF hP hS hh)
theorem px_s_sipush {d : Nat} {M : pM} {C : pC} {n pc : Nat} {ls : pL} {st : List pV} {h : pH} {q : Int32 × pH} {k : pK} {v : Int} (hd : decode M.2.1 pc = .ok (.sipush v, n)) (e : px_step M.1 M.2.2.2 C (.sipush v) n pc ls st h k = some q) (kk : ∀ pc' ls' st' h', k pc' ls' st' h' = some q → px_G d M pc' ls' st' h' q) : px_G d M pc ls st h q := by
  have e9 := px_if_some e
  clear e
  obtain ⟨hn, e⟩ := e9
  rw [Bool.and_eq_true, Bool.and_eq_true] at hn
  obtain ⟨hn, h1, h2⟩ := hn
  have hn := Nat.eq_of_beq_eq_true hn
  subst hn
  intro p l e0 s m args below meth c D D3 ad H locs lsA hF hP hS hh
  obtain ⟨hx, hb, hml, hr, hown, hts, hlocks, hK, hN, hi⟩ := id hF
  exact lv_sipush hx hb hd (px_b16 (of_decide_eq_true h1) (of_decide_eq_true h2)) (kk _ _ _ _ e p l e0 s m args below meth c D D3 ad H locs lsA hF hP hS hh)
theorem px_s_lconst {d : Nat} {M : pM} {C : pC} {n pc : Nat} {ls : pL} {st : List pV} {h : pH} {q : Int32 × pH} {k : pK} {v : Fin 2} (hd : decode M.2.1 pc = .ok (.lconst v, n)) (e : px_step M.1 M.2.2.2 C (.lconst v) n pc ls st h k = some q) (kk : ∀ pc' ls' st' h', k pc' ls' st' h' = some q → px_G d M pc' ls' st' h' q) : px_G d M pc ls st h q := by
  have e9 := px_if_some e
  clear e
  obtain ⟨hn, e⟩ := e9
  have hn := Nat.eq_of_beq_eq_true hn
  subst hn
  intro p l e0 s m args below meth c D D3 ad H locs lsA hF hP hS hh
  obtain ⟨hx, hb, hml, hr, hown, hts, hlocks, hK, hN, hi⟩ := id hF
  exact lv_lconst hx hb hd rfl (kk _ _ _ _ e p l e0 s m args below meth c D D3 ad H locs lsA hF hP hS hh)
theorem px_s_iload {d : Nat} {M : pM} {C : pC} {n pc : Nat} {ls : pL} {st : List pV} {h : pH} {q : Int32 × pH} {k : pK} {j : Nat} (hd : decode M.2.1 pc = .ok (.iload j, n)) (e : px_step M.1 M.2.2.2 C (.iload j) n pc ls st h k = some q) (kk : ∀ pc' ls' st' h', k pc' ls' st' h' = some q → px_G d M pc' ls' st' h' q) : px_G d M pc ls st h q := by
  have e9 := px_if_some e
  clear e
  obtain ⟨hn, e⟩ := e9
  have hn := Nat.eq_of_beq_eq_true hn
  subst hn
  have e9 := px_ld_some e
  clear e
  obtain ⟨v, hv, e⟩ := e9
  have e9 := px_isI_some e
  clear e
  obtain ⟨y, rfl, e⟩ := e9
  intro p l e0 s m args below meth c D D3 ad H locs lsA hF hP hS hh
  obtain ⟨hx, hb, hml, hr, hown, hts, hlocks, hK, hN, hi⟩ := id hF
  exact lv_iload hx hb hd (hh.2.2.2 _ _ hv) (kk _ _ _ _ e p l e0 s m args below meth c D D3 ad H locs lsA hF hP hS hh)
theorem px_s_aload {d : Nat} {M : pM} {C : pC} {n pc : Nat} {ls : pL} {st : List pV} {h : pH} {q : Int32 × pH} {k : pK} {j : Nat} (hd : decode M.2.1 pc = .ok (.aload j, n)) (e : px_step M.1 M.2.2.2 C (.aload j) n pc ls st h k = some q) (kk : ∀ pc' ls' st' h', k pc' ls' st' h' = some q → px_G d M pc' ls' st' h' q) : px_G d M pc ls st h q := by
  have e9 := px_if_some e
  clear e
  obtain ⟨hn, e⟩ := e9
  have hn := Nat.eq_of_beq_eq_true hn
  subst hn
  have e9 := px_ld_some e
  clear e
  obtain ⟨v, hv, e⟩ := e9
  have e9 := px_isA_some e
  clear e
  obtain ⟨y, rfl, e⟩ := e9
  intro p l e0 s m args below meth c D D3 ad H locs lsA hF hP hS hh
  obtain ⟨hx, hb, hml, hr, hown, hts, hlocks, hK, hN, hi⟩ := id hF
  exact lv_aload hx hb hd (hh.2.2.2 _ _ hv) (kk _ _ _ _ e p l e0 s m args below meth c D D3 ad H locs lsA hF hP hS hh)
theorem px_s_lload {d : Nat} {M : pM} {C : pC} {n pc : Nat} {ls : pL} {st : List pV} {h : pH} {q : Int32 × pH} {k : pK} {j : Nat} (hd : decode M.2.1 pc = .ok (.lload j, n)) (e : px_step M.1 M.2.2.2 C (.lload j) n pc ls st h k = some q) (kk : ∀ pc' ls' st' h', k pc' ls' st' h' = some q → px_G d M pc' ls' st' h' q) : px_G d M pc ls st h q := by
  have e9 := px_if_some e
  clear e
  obtain ⟨hn, e⟩ := e9
  have hn := Nat.eq_of_beq_eq_true hn
  subst hn
  have e9 := px_ld_some e
  clear e
  obtain ⟨v, hv, e⟩ := e9
  have e9 := px_isL_some e
  clear e
  obtain ⟨y, rfl, e⟩ := e9
  intro p l e0 s m args below meth c D D3 ad H locs lsA hF hP hS hh
  obtain ⟨hx, hb, hml, hr, hown, hts, hlocks, hK, hN, hi⟩ := id hF
  exact lv_lload hx hb hd (hh.2.2.2 _ _ hv) (kk _ _ _ _ e p l e0 s m args below meth c D D3 ad H locs lsA hF hP hS hh)
theorem px_s_iload_n {d : Nat} {M : pM} {C : pC} {n pc : Nat} {ls : pL} {st : List pV} {h : pH} {q : Int32 × pH} {k : pK} {j : Fin 4} (hd : decode M.2.1 pc = .ok (.iload_n j, n)) (e : px_step M.1 M.2.2.2 C (.iload_n j) n pc ls st h k = some q) (kk : ∀ pc' ls' st' h', k pc' ls' st' h' = some q → px_G d M pc' ls' st' h' q) : px_G d M pc ls st h q := by
  have e9 := px_if_some e
  clear e
  obtain ⟨hn, e⟩ := e9
  have hn := Nat.eq_of_beq_eq_true hn
  subst hn
  have e9 := px_ld_some e
  clear e
  obtain ⟨v, hv, e⟩ := e9
  have e9 := px_isI_some e
  clear e
  obtain ⟨y, rfl, e⟩ := e9
  intro p l e0 s m args below meth c D D3 ad H locs lsA hF hP hS hh
  obtain ⟨hx, hb, hml, hr, hown, hts, hlocks, hK, hN, hi⟩ := id hF
  exact lv_iload_n hx hb hd rfl (hh.2.2.2 _ _ hv) (kk _ _ _ _ e p l e0 s m args below meth c D D3 ad H locs lsA hF hP hS hh)
theorem px_s_aload_n {d : Nat} {M : pM} {C : pC} {n pc : Nat} {ls : pL} {st : List pV} {h : pH} {q : Int32 × pH} {k : pK} {j : Fin 4} (hd : decode M.2.1 pc = .ok (.aload_n j, n)) (e : px_step M.1 M.2.2.2 C (.aload_n j) n pc ls st h k = some q) (kk : ∀ pc' ls' st' h', k pc' ls' st' h' = some q → px_G d M pc' ls' st' h' q) : px_G d M pc ls st h q := by
  have e9 := px_if_some e
  clear e
  obtain ⟨hn, e⟩ := e9
  have hn := Nat.eq_of_beq_eq_true hn
  subst hn
  have e9 := px_ld_some e
  clear e
  obtain ⟨v, hv, e⟩ := e9
  have e9 := px_isA_some e
  clear e
  obtain ⟨y, rfl, e⟩ := e9
  intro p l e0 s m args below meth c D D3 ad H locs lsA hF hP hS hh
  obtain ⟨hx, hb, hml, hr, hown, hts, hlocks, hK, hN, hi⟩ := id hF
  exact lv_aload_n hx hb hd rfl (hh.2.2.2 _ _ hv) (kk _ _ _ _ e p l e0 s m args below meth c D D3 ad H locs lsA hF hP hS hh)
theorem px_s_istore {d : Nat} {M : pM} {C : pC} {n pc : Nat} {ls : pL} {st : List pV} {h : pH} {q : Int32 × pH} {k : pK} {j : Nat} (hd : decode M.2.1 pc = .ok (.istore j, n)) (e : px_step M.1 M.2.2.2 C (.istore j) n pc ls st h k = some q) (kk : ∀ pc' ls' st' h', k pc' ls' st' h' = some q → px_G d M pc' ls' st' h' q) : px_G d M pc ls st h q := by
  have e9 := px_if_some e
  clear e
  obtain ⟨hn, e⟩ := e9
  rw [Bool.and_eq_true] at hn
  obtain ⟨hn, hc⟩ := hn
  have hn := Nat.eq_of_beq_eq_true hn
  subst hn
  have e9 := px_i1_some e
  clear e
  obtain ⟨x, r, rfl, e⟩ := e9
  intro p l e0 s m args below meth c D D3 ad H locs lsA hF hP hS hh
  obtain ⟨hx, hb, hml, hr, hown, hts, hlocks, hK, hN, hi⟩ := id hF
  exact lv_istore hx hb hd (px_has_lv hh) (by rw [← hh.2.2.1]; exact px_cs_lt hc) rfl fun ls9 h9 => (kk _ _ _ _ e p l e0 s m args below meth c D D3 ad H locs ls9 hF hP hS (px_has_st1 (v := .inl x) hh hc h9))
theorem px_s_istore_n {d : Nat} {M : pM} {C : pC} {n pc : Nat} {ls : pL} {st : List pV} {h : pH} {q : Int32 × pH} {k : pK} {j : Fin 4} (hd : decode M.2.1 pc = .ok (.istore_n j, n)) (e : px_step M.1 M.2.2.2 C (.istore_n j) n pc ls st h k = some q) (kk : ∀ pc' ls' st' h', k pc' ls' st' h' = some q → px_G d M pc' ls' st' h' q) : px_G d M pc ls st h q := by
  have e9 := px_if_some e
  clear e
  obtain ⟨hn, e⟩ := e9
  rw [Bool.and_eq_true] at hn
  obtain ⟨hn, hc⟩ := hn
  have hn := Nat.eq_of_beq_eq_true hn
  subst hn
  have e9 := px_i1_some e
  clear e
  obtain ⟨x, r, rfl, e⟩ := e9
  intro p l e0 s m args below meth c D D3 ad H locs lsA hF hP hS hh
  obtain ⟨hx, hb, hml, hr, hown, hts, hlocks, hK, hN, hi⟩ := id hF
  exact lv_istore_n hx hb hd rfl (px_has_lv hh) (by rw [← hh.2.2.1]; exact px_cs_lt hc) rfl fun ls9 h9 => (kk _ _ _ _ e p l e0 s m args below meth c D D3 ad H locs ls9 hF hP hS (px_has_st1 (v := .inl x) hh hc h9))
theorem px_s_lstore {d : Nat} {M : pM} {C : pC} {n pc : Nat} {ls : pL} {st : List pV} {h : pH} {q : Int32 × pH} {k : pK} {j : Nat} (hd : decode M.2.1 pc = .ok (.lstore j, n)) (e : px_step M.1 M.2.2.2 C (.lstore j) n pc ls st h k = some q) (kk : ∀ pc' ls' st' h', k pc' ls' st' h' = some q → px_G d M pc' ls' st' h' q) : px_G d M pc ls st h q := by
  have e9 := px_if_some e
  clear e
  obtain ⟨hn, e⟩ := e9
  rw [Bool.and_eq_true, Bool.and_eq_true] at hn
  obtain ⟨⟨hn, hc⟩, hl⟩ := hn
  have hn := Nat.eq_of_beq_eq_true hn
  subst hn
  obtain ⟨x, r, rfl, e⟩ : ∃ x r, st = .inr (.inr x) :: r ∧ k (pc + 2) (px_upd (px_upd ls (j + 1) none) j (some (.inr (.inr x)))) r h = some q := by
    split at e
    · exact ⟨_, _, rfl, e⟩
    · cases e
  intro p l e0 s m args below meth c D D3 ad H locs lsA hF hP hS hh
  obtain ⟨hx, hb, hml, hr, hown, hts, hlocks, hK, hN, hi⟩ := id hF
  exact lv_lstore hx hb hd (px_has_lv hh) (by rw [← hh.2.2.1]; simpa [Nat.blt_eq] using hl) rfl fun ls9 h9 => (kk _ _ _ _ e p l e0 s m args below meth c D D3 ad H locs ls9 hF hP hS (px_has_st2 (v := .inr (.inr x)) hh hc h9))
theorem px_s_iinc {d : Nat} {M : pM} {C : pC} {n pc : Nat} {ls : pL} {st : List pV} {h : pH} {q : Int32 × pH} {k : pK} {j : Nat} {v : Int} (hd : decode M.2.1 pc = .ok (.iinc j v, n)) (e : px_step M.1 M.2.2.2 C (.iinc j v) n pc ls st h k = some q) (kk : ∀ pc' ls' st' h', k pc' ls' st' h' = some q → px_G d M pc' ls' st' h' q) : px_G d M pc ls st h q := by
  have e9 := px_if_some e
  clear e
  obtain ⟨hn, e⟩ := e9
  rw [Bool.and_eq_true] at hn
  obtain ⟨hn, hc⟩ := hn
  have hn := Nat.eq_of_beq_eq_true hn
  subst hn
  have e9 := px_ld_some e
  clear e
  obtain ⟨w, hw, e⟩ := e9
  obtain ⟨x, rfl, e⟩ : ∃ x, w = .inl x ∧ k (pc + 3) (px_upd ls j (some (.inl (x + px_c v)))) st h = some q := by
    split at e
    · exact ⟨_, rfl, e⟩
    · cases e
  intro p l e0 s m args below meth c D D3 ad H locs lsA hF hP hS hh
  obtain ⟨hx, hb, hml, hr, hown, hts, hlocks, hK, hN, hi⟩ := id hF
  obtain ⟨k0, hk0⟩ := List.getElem?_of_mem (px_ents_mem (q := (j, Value.int x)) (ad := ad) |>.mpr ⟨.inl x, hw, rfl⟩)
  exact lv_iinc hx hb hd (px_has_lv hh) hk0 (by rw [px_c_eq]) (by rw [← hh.2.2.1]; exact px_cs_lt hc) rfl fun ls9 h9 => (kk _ _ _ _ e p l e0 s m args below meth c D D3 ad H locs ls9 hF hP hS (px_has_st1 (v := .inl (x + px_c v)) hh hc h9))
theorem px_s_iadd {d : Nat} {M : pM} {C : pC} {n pc : Nat} {ls : pL} {st : List pV} {h : pH} {q : Int32 × pH} {k : pK} (hd : decode M.2.1 pc = .ok (.iadd, n)) (e : px_step M.1 M.2.2.2 C (.iadd) n pc ls st h k = some q) (kk : ∀ pc' ls' st' h', k pc' ls' st' h' = some q → px_G d M pc' ls' st' h' q) : px_G d M pc ls st h q := by
  have e9 := px_if_some e
  clear e
  obtain ⟨hn, e⟩ := e9
  have hn := Nat.eq_of_beq_eq_true hn
  subst hn
  have e9 := px_i2_some e
  clear e
  obtain ⟨x, y, r, rfl, e⟩ := e9
  intro p l e0 s m args below meth c D D3 ad H locs lsA hF hP hS hh
  obtain ⟨hx, hb, hml, hr, hown, hts, hlocks, hK, hN, hi⟩ := id hF
  exact lv_iadd hx hb hd (kk _ _ _ _ e p l e0 s m args below meth c D D3 ad H locs lsA hF hP hS hh)
theorem px_s_isub {d : Nat} {M : pM} {C : pC} {n pc : Nat} {ls : pL} {st : List pV} {h : pH} {q : Int32 × pH} {k : pK} (hd : decode M.2.1 pc = .ok (.isub, n)) (e : px_step M.1 M.2.2.2 C (.isub) n pc ls st h k = some q) (kk : ∀ pc' ls' st' h', k pc' ls' st' h' = some q → px_G d M pc' ls' st' h' q) : px_G d M pc ls st h q := by
  have e9 := px_if_some e
  clear e
  obtain ⟨hn, e⟩ := e9
  have hn := Nat.eq_of_beq_eq_true hn
  subst hn
  have e9 := px_i2_some e
  clear e
  obtain ⟨x, y, r, rfl, e⟩ := e9
  intro p l e0 s m args below meth c D D3 ad H locs lsA hF hP hS hh
  obtain ⟨hx, hb, hml, hr, hown, hts, hlocks, hK, hN, hi⟩ := id hF
  exact lv_isub hx hb hd (kk _ _ _ _ e p l e0 s m args below meth c D D3 ad H locs lsA hF hP hS hh)
theorem px_s_imul {d : Nat} {M : pM} {C : pC} {n pc : Nat} {ls : pL} {st : List pV} {h : pH} {q : Int32 × pH} {k : pK} (hd : decode M.2.1 pc = .ok (.imul, n)) (e : px_step M.1 M.2.2.2 C (.imul) n pc ls st h k = some q) (kk : ∀ pc' ls' st' h', k pc' ls' st' h' = some q → px_G d M pc' ls' st' h' q) : px_G d M pc ls st h q := by
  have e9 := px_if_some e
  clear e
  obtain ⟨hn, e⟩ := e9
  have hn := Nat.eq_of_beq_eq_true hn
  subst hn
  have e9 := px_i2_some e
  clear e
  obtain ⟨x, y, r, rfl, e⟩ := e9
  intro p l e0 s m args below meth c D D3 ad H locs lsA hF hP hS hh
  obtain ⟨hx, hb, hml, hr, hown, hts, hlocks, hK, hN, hi⟩ := id hF
  exact lv_imul hx hb hd (kk _ _ _ _ e p l e0 s m args below meth c D D3 ad H locs lsA hF hP hS hh)
theorem px_s_iand {d : Nat} {M : pM} {C : pC} {n pc : Nat} {ls : pL} {st : List pV} {h : pH} {q : Int32 × pH} {k : pK} (hd : decode M.2.1 pc = .ok (.iand, n)) (e : px_step M.1 M.2.2.2 C (.iand) n pc ls st h k = some q) (kk : ∀ pc' ls' st' h', k pc' ls' st' h' = some q → px_G d M pc' ls' st' h' q) : px_G d M pc ls st h q := by
  have e9 := px_if_some e
  clear e
  obtain ⟨hn, e⟩ := e9
  have hn := Nat.eq_of_beq_eq_true hn
  subst hn
  have e9 := px_i2_some e
  clear e
  obtain ⟨x, y, r, rfl, e⟩ := e9
  intro p l e0 s m args below meth c D D3 ad H locs lsA hF hP hS hh
  obtain ⟨hx, hb, hml, hr, hown, hts, hlocks, hK, hN, hi⟩ := id hF
  exact lv_iand hx hb hd (kk _ _ _ _ e p l e0 s m args below meth c D D3 ad H locs lsA hF hP hS hh)
theorem px_s_ior {d : Nat} {M : pM} {C : pC} {n pc : Nat} {ls : pL} {st : List pV} {h : pH} {q : Int32 × pH} {k : pK} (hd : decode M.2.1 pc = .ok (.ior, n)) (e : px_step M.1 M.2.2.2 C (.ior) n pc ls st h k = some q) (kk : ∀ pc' ls' st' h', k pc' ls' st' h' = some q → px_G d M pc' ls' st' h' q) : px_G d M pc ls st h q := by
  have e9 := px_if_some e
  clear e
  obtain ⟨hn, e⟩ := e9
  have hn := Nat.eq_of_beq_eq_true hn
  subst hn
  have e9 := px_i2_some e
  clear e
  obtain ⟨x, y, r, rfl, e⟩ := e9
  intro p l e0 s m args below meth c D D3 ad H locs lsA hF hP hS hh
  obtain ⟨hx, hb, hml, hr, hown, hts, hlocks, hK, hN, hi⟩ := id hF
  exact lv_ior hx hb hd (kk _ _ _ _ e p l e0 s m args below meth c D D3 ad H locs lsA hF hP hS hh)
theorem px_s_ixor {d : Nat} {M : pM} {C : pC} {n pc : Nat} {ls : pL} {st : List pV} {h : pH} {q : Int32 × pH} {k : pK} (hd : decode M.2.1 pc = .ok (.ixor, n)) (e : px_step M.1 M.2.2.2 C (.ixor) n pc ls st h k = some q) (kk : ∀ pc' ls' st' h', k pc' ls' st' h' = some q → px_G d M pc' ls' st' h' q) : px_G d M pc ls st h q := by
  have e9 := px_if_some e
  clear e
  obtain ⟨hn, e⟩ := e9
  have hn := Nat.eq_of_beq_eq_true hn
  subst hn
  have e9 := px_i2_some e
  clear e
  obtain ⟨x, y, r, rfl, e⟩ := e9
  intro p l e0 s m args below meth c D D3 ad H locs lsA hF hP hS hh
  obtain ⟨hx, hb, hml, hr, hown, hts, hlocks, hK, hN, hi⟩ := id hF
  exact lv_ixor hx hb hd (kk _ _ _ _ e p l e0 s m args below meth c D D3 ad H locs lsA hF hP hS hh)
theorem px_s_ishl {d : Nat} {M : pM} {C : pC} {n pc : Nat} {ls : pL} {st : List pV} {h : pH} {q : Int32 × pH} {k : pK} (hd : decode M.2.1 pc = .ok (.ishl, n)) (e : px_step M.1 M.2.2.2 C (.ishl) n pc ls st h k = some q) (kk : ∀ pc' ls' st' h', k pc' ls' st' h' = some q → px_G d M pc' ls' st' h' q) : px_G d M pc ls st h q := by
  have e9 := px_if_some e
  clear e
  obtain ⟨hn, e⟩ := e9
  have hn := Nat.eq_of_beq_eq_true hn
  subst hn
  have e9 := px_i2_some e
  clear e
  obtain ⟨x, y, r, rfl, e⟩ := e9
  intro p l e0 s m args below meth c D D3 ad H locs lsA hF hP hS hh
  obtain ⟨hx, hb, hml, hr, hown, hts, hlocks, hK, hN, hi⟩ := id hF
  exact lv_ishl hx hb hd (kk _ _ _ _ e p l e0 s m args below meth c D D3 ad H locs lsA hF hP hS hh)
theorem px_s_ishr {d : Nat} {M : pM} {C : pC} {n pc : Nat} {ls : pL} {st : List pV} {h : pH} {q : Int32 × pH} {k : pK} (hd : decode M.2.1 pc = .ok (.ishr, n)) (e : px_step M.1 M.2.2.2 C (.ishr) n pc ls st h k = some q) (kk : ∀ pc' ls' st' h', k pc' ls' st' h' = some q → px_G d M pc' ls' st' h' q) : px_G d M pc ls st h q := by
  have e9 := px_if_some e
  clear e
  obtain ⟨hn, e⟩ := e9
  have hn := Nat.eq_of_beq_eq_true hn
  subst hn
  have e9 := px_i2_some e
  clear e
  obtain ⟨x, y, r, rfl, e⟩ := e9
  intro p l e0 s m args below meth c D D3 ad H locs lsA hF hP hS hh
  obtain ⟨hx, hb, hml, hr, hown, hts, hlocks, hK, hN, hi⟩ := id hF
  exact lv_ishr hx hb hd (kk _ _ _ _ e p l e0 s m args below meth c D D3 ad H locs lsA hF hP hS hh)
theorem px_s_idiv {d : Nat} {M : pM} {C : pC} {n pc : Nat} {ls : pL} {st : List pV} {h : pH} {q : Int32 × pH} {k : pK} (hd : decode M.2.1 pc = .ok (.idiv, n)) (e : px_step M.1 M.2.2.2 C (.idiv) n pc ls st h k = some q) (kk : ∀ pc' ls' st' h', k pc' ls' st' h' = some q → px_G d M pc' ls' st' h' q) : px_G d M pc ls st h q := by
  have e9 := px_if_some e
  clear e
  obtain ⟨hn, e⟩ := e9
  have hn := Nat.eq_of_beq_eq_true hn
  subst hn
  have e9 := px_i2_some e
  clear e
  obtain ⟨x, y, r, rfl, e⟩ := e9
  by_cases hy : y = 0
  · rw [if_pos hy] at e
    cases e
  rw [if_neg hy] at e
  intro p l e0 s m args below meth c D D3 ad H locs lsA hF hP hS hh
  obtain ⟨hx, hb, hml, hr, hown, hts, hlocks, hK, hN, hi⟩ := id hF
  exact lv_idiv hx hb hd hy (kk _ _ _ _ e p l e0 s m args below meth c D D3 ad H locs lsA hF hP hS hh)
theorem px_s_irem {d : Nat} {M : pM} {C : pC} {n pc : Nat} {ls : pL} {st : List pV} {h : pH} {q : Int32 × pH} {k : pK} (hd : decode M.2.1 pc = .ok (.irem, n)) (e : px_step M.1 M.2.2.2 C (.irem) n pc ls st h k = some q) (kk : ∀ pc' ls' st' h', k pc' ls' st' h' = some q → px_G d M pc' ls' st' h' q) : px_G d M pc ls st h q := by
  have e9 := px_if_some e
  clear e
  obtain ⟨hn, e⟩ := e9
  have hn := Nat.eq_of_beq_eq_true hn
  subst hn
  have e9 := px_i2_some e
  clear e
  obtain ⟨x, y, r, rfl, e⟩ := e9
  by_cases hy : y = 0
  · rw [if_pos hy] at e
    cases e
  rw [if_neg hy] at e
  intro p l e0 s m args below meth c D D3 ad H locs lsA hF hP hS hh
  obtain ⟨hx, hb, hml, hr, hown, hts, hlocks, hK, hN, hi⟩ := id hF
  exact lv_irem hx hb hd hy (kk _ _ _ _ e p l e0 s m args below meth c D D3 ad H locs lsA hF hP hS hh)
theorem px_s_iushr {d : Nat} {M : pM} {C : pC} {n pc : Nat} {ls : pL} {st : List pV} {h : pH} {q : Int32 × pH} {k : pK} (hd : decode M.2.1 pc = .ok (.iushr, n)) (e : px_step M.1 M.2.2.2 C (.iushr) n pc ls st h k = some q) (kk : ∀ pc' ls' st' h', k pc' ls' st' h' = some q → px_G d M pc' ls' st' h' q) : px_G d M pc ls st h q := by
  have e9 := px_if_some e
  clear e
  obtain ⟨hn, e⟩ := e9
  have hn := Nat.eq_of_beq_eq_true hn
  subst hn
  have e9 := px_i2_some e
  clear e
  obtain ⟨x, y, r, rfl, e⟩ := e9
  intro p l e0 s m args below meth c D D3 ad H locs lsA hF hP hS hh
  obtain ⟨hx, hb, hml, hr, hown, hts, hlocks, hK, hN, hi⟩ := id hF
  exact lv_iushr hx hb hd rfl (kk _ _ _ _ e p l e0 s m args below meth c D D3 ad H locs lsA hF hP hS hh)
theorem px_s_ineg {d : Nat} {M : pM} {C : pC} {n pc : Nat} {ls : pL} {st : List pV} {h : pH} {q : Int32 × pH} {k : pK} (hd : decode M.2.1 pc = .ok (.ineg, n)) (e : px_step M.1 M.2.2.2 C (.ineg) n pc ls st h k = some q) (kk : ∀ pc' ls' st' h', k pc' ls' st' h' = some q → px_G d M pc' ls' st' h' q) : px_G d M pc ls st h q := by
  have e9 := px_if_some e
  clear e
  obtain ⟨hn, e⟩ := e9
  have hn := Nat.eq_of_beq_eq_true hn
  subst hn
  have e9 := px_i1_some e
  clear e
  obtain ⟨x, r, rfl, e⟩ := e9
  intro p l e0 s m args below meth c D D3 ad H locs lsA hF hP hS hh
  obtain ⟨hx, hb, hml, hr, hown, hts, hlocks, hK, hN, hi⟩ := id hF
  exact lv_ineg hx hb hd (kk _ _ _ _ e p l e0 s m args below meth c D D3 ad H locs lsA hF hP hS hh)
theorem px_s_i2b {d : Nat} {M : pM} {C : pC} {n pc : Nat} {ls : pL} {st : List pV} {h : pH} {q : Int32 × pH} {k : pK} (hd : decode M.2.1 pc = .ok (.i2b, n)) (e : px_step M.1 M.2.2.2 C (.i2b) n pc ls st h k = some q) (kk : ∀ pc' ls' st' h', k pc' ls' st' h' = some q → px_G d M pc' ls' st' h' q) : px_G d M pc ls st h q := by
  have e9 := px_if_some e
  clear e
  obtain ⟨hn, e⟩ := e9
  have hn := Nat.eq_of_beq_eq_true hn
  subst hn
  have e9 := px_i1_some e
  clear e
  obtain ⟨x, r, rfl, e⟩ := e9
  intro p l e0 s m args below meth c D D3 ad H locs lsA hF hP hS hh
  obtain ⟨hx, hb, hml, hr, hown, hts, hlocks, hK, hN, hi⟩ := id hF
  exact lv_i2b hx hb hd rfl (kk _ _ _ _ e p l e0 s m args below meth c D D3 ad H locs lsA hF hP hS hh)
theorem px_s_i2s {d : Nat} {M : pM} {C : pC} {n pc : Nat} {ls : pL} {st : List pV} {h : pH} {q : Int32 × pH} {k : pK} (hd : decode M.2.1 pc = .ok (.i2s, n)) (e : px_step M.1 M.2.2.2 C (.i2s) n pc ls st h k = some q) (kk : ∀ pc' ls' st' h', k pc' ls' st' h' = some q → px_G d M pc' ls' st' h' q) : px_G d M pc ls st h q := by
  have e9 := px_if_some e
  clear e
  obtain ⟨hn, e⟩ := e9
  have hn := Nat.eq_of_beq_eq_true hn
  subst hn
  have e9 := px_i1_some e
  clear e
  obtain ⟨x, r, rfl, e⟩ := e9
  intro p l e0 s m args below meth c D D3 ad H locs lsA hF hP hS hh
  obtain ⟨hx, hb, hml, hr, hown, hts, hlocks, hK, hN, hi⟩ := id hF
  exact lv_i2s hx hb hd rfl (kk _ _ _ _ e p l e0 s m args below meth c D D3 ad H locs lsA hF hP hS hh)
theorem px_s_i2c {d : Nat} {M : pM} {C : pC} {n pc : Nat} {ls : pL} {st : List pV} {h : pH} {q : Int32 × pH} {k : pK} (hd : decode M.2.1 pc = .ok (.i2c, n)) (e : px_step M.1 M.2.2.2 C (.i2c) n pc ls st h k = some q) (kk : ∀ pc' ls' st' h', k pc' ls' st' h' = some q → px_G d M pc' ls' st' h' q) : px_G d M pc ls st h q := by
  have e9 := px_if_some e
  clear e
  obtain ⟨hn, e⟩ := e9
  have hn := Nat.eq_of_beq_eq_true hn
  subst hn
  have e9 := px_i1_some e
  clear e
  obtain ⟨x, r, rfl, e⟩ := e9
  intro p l e0 s m args below meth c D D3 ad H locs lsA hF hP hS hh
  obtain ⟨hx, hb, hml, hr, hown, hts, hlocks, hK, hN, hi⟩ := id hF
  exact lv_i2c hx hb hd rfl (kk _ _ _ _ e p l e0 s m args below meth c D D3 ad H locs lsA hF hP hS hh)
theorem px_s_i2l {d : Nat} {M : pM} {C : pC} {n pc : Nat} {ls : pL} {st : List pV} {h : pH} {q : Int32 × pH} {k : pK} (hd : decode M.2.1 pc = .ok (.i2l, n)) (e : px_step M.1 M.2.2.2 C (.i2l) n pc ls st h k = some q) (kk : ∀ pc' ls' st' h', k pc' ls' st' h' = some q → px_G d M pc' ls' st' h' q) : px_G d M pc ls st h q := by
  have e9 := px_if_some e
  clear e
  obtain ⟨hn, e⟩ := e9
  have hn := Nat.eq_of_beq_eq_true hn
  subst hn
  have e9 := px_i1_some e
  clear e
  obtain ⟨x, r, rfl, e⟩ := e9
  intro p l e0 s m args below meth c D D3 ad H locs lsA hF hP hS hh
  obtain ⟨hx, hb, hml, hr, hown, hts, hlocks, hK, hN, hi⟩ := id hF
  exact lv_i2l hx hb hd rfl (kk _ _ _ _ e p l e0 s m args below meth c D D3 ad H locs lsA hF hP hS hh)
theorem px_s_l2i {d : Nat} {M : pM} {C : pC} {n pc : Nat} {ls : pL} {st : List pV} {h : pH} {q : Int32 × pH} {k : pK} (hd : decode M.2.1 pc = .ok (.l2i, n)) (e : px_step M.1 M.2.2.2 C (.l2i) n pc ls st h k = some q) (kk : ∀ pc' ls' st' h', k pc' ls' st' h' = some q → px_G d M pc' ls' st' h' q) : px_G d M pc ls st h q := by
  have e9 := px_if_some e
  clear e
  obtain ⟨hn, e⟩ := e9
  have hn := Nat.eq_of_beq_eq_true hn
  subst hn
  obtain ⟨x, r, rfl, e⟩ : ∃ x r, st = .inr (.inr x) :: r ∧ k (pc + 1) ls (.inl x.toInt32 :: r) h = some q := by
    split at e
    · exact ⟨_, _, rfl, e⟩
    · cases e
  intro p l e0 s m args below meth c D D3 ad H locs lsA hF hP hS hh
  obtain ⟨hx, hb, hml, hr, hown, hts, hlocks, hK, hN, hi⟩ := id hF
  exact lv_l2i hx hb hd rfl (kk _ _ _ _ e p l e0 s m args below meth c D D3 ad H locs lsA hF hP hS hh)
theorem px_s_ladd {d : Nat} {M : pM} {C : pC} {n pc : Nat} {ls : pL} {st : List pV} {h : pH} {q : Int32 × pH} {k : pK} (hd : decode M.2.1 pc = .ok (.ladd, n)) (e : px_step M.1 M.2.2.2 C (.ladd) n pc ls st h k = some q) (kk : ∀ pc' ls' st' h', k pc' ls' st' h' = some q → px_G d M pc' ls' st' h' q) : px_G d M pc ls st h q := by
  have e9 := px_if_some e
  clear e
  obtain ⟨hn, e⟩ := e9
  have hn := Nat.eq_of_beq_eq_true hn
  subst hn
  have e9 := px_l2_some e
  clear e
  obtain ⟨x, y, r, rfl, e⟩ := e9
  intro p l e0 s m args below meth c D D3 ad H locs lsA hF hP hS hh
  obtain ⟨hx, hb, hml, hr, hown, hts, hlocks, hK, hN, hi⟩ := id hF
  exact lv_ladd hx hb hd (kk _ _ _ _ e p l e0 s m args below meth c D D3 ad H locs lsA hF hP hS hh)
theorem px_s_lsub {d : Nat} {M : pM} {C : pC} {n pc : Nat} {ls : pL} {st : List pV} {h : pH} {q : Int32 × pH} {k : pK} (hd : decode M.2.1 pc = .ok (.lsub, n)) (e : px_step M.1 M.2.2.2 C (.lsub) n pc ls st h k = some q) (kk : ∀ pc' ls' st' h', k pc' ls' st' h' = some q → px_G d M pc' ls' st' h' q) : px_G d M pc ls st h q := by
  have e9 := px_if_some e
  clear e
  obtain ⟨hn, e⟩ := e9
  have hn := Nat.eq_of_beq_eq_true hn
  subst hn
  have e9 := px_l2_some e
  clear e
  obtain ⟨x, y, r, rfl, e⟩ := e9
  intro p l e0 s m args below meth c D D3 ad H locs lsA hF hP hS hh
  obtain ⟨hx, hb, hml, hr, hown, hts, hlocks, hK, hN, hi⟩ := id hF
  exact lv_lsub hx hb hd (kk _ _ _ _ e p l e0 s m args below meth c D D3 ad H locs lsA hF hP hS hh)
theorem px_s_lcmp {d : Nat} {M : pM} {C : pC} {n pc : Nat} {ls : pL} {st : List pV} {h : pH} {q : Int32 × pH} {k : pK} (hd : decode M.2.1 pc = .ok (.lcmp, n)) (e : px_step M.1 M.2.2.2 C (.lcmp) n pc ls st h k = some q) (kk : ∀ pc' ls' st' h', k pc' ls' st' h' = some q → px_G d M pc' ls' st' h' q) : px_G d M pc ls st h q := by
  have e9 := px_if_some e
  clear e
  obtain ⟨hn, e⟩ := e9
  have hn := Nat.eq_of_beq_eq_true hn
  subst hn
  have e9 := px_l2_some e
  clear e
  obtain ⟨x, y, r, rfl, e⟩ := e9
  intro p l e0 s m args below meth c D D3 ad H locs lsA hF hP hS hh
  obtain ⟨hx, hb, hml, hr, hown, hts, hlocks, hK, hN, hi⟩ := id hF
  exact W.lcmp hx hb hd (kk _ _ _ _ e p l e0 s m args below meth c D D3 ad H locs lsA hF hP hS hh)
theorem px_cat_ok {ad : Nat → Nat} {v : pV} (h : Nat.beq (px_cat v) 1 = true) : (pv ad v).category = 1 := by
  match v, h with
  | .inl x, _ => rfl
  | .inr (.inl x), _ => rfl
  | .inr (.inr x), h => cases h
theorem px_s_dup {d : Nat} {M : pM} {C : pC} {n pc : Nat} {ls : pL} {st : List pV} {h : pH} {q : Int32 × pH} {k : pK} (hd : decode M.2.1 pc = .ok (.dup, n)) (e : px_step M.1 M.2.2.2 C (.dup) n pc ls st h k = some q) (kk : ∀ pc' ls' st' h', k pc' ls' st' h' = some q → px_G d M pc' ls' st' h' q) : px_G d M pc ls st h q := by
  have e9 := px_if_some e
  clear e
  obtain ⟨hn, e⟩ := e9
  have hn := Nat.eq_of_beq_eq_true hn
  subst hn
  obtain ⟨v, r, rfl, e⟩ : ∃ v r, st = v :: r ∧ px_if (Nat.beq (px_cat v) 1) (k (pc + 1) ls (v :: v :: r) h) = some q := by
    split at e
    · exact ⟨_, _, rfl, e⟩
    · cases e
  have e9 := px_if_some e
  clear e
  obtain ⟨hc, e⟩ := e9
  intro p l e0 s m args below meth c D D3 ad H locs lsA hF hP hS hh
  obtain ⟨hx, hb, hml, hr, hown, hts, hlocks, hK, hN, hi⟩ := id hF
  exact lv_dup hx hb hd (px_cat_ok hc) (kk _ _ _ _ e p l e0 s m args below meth c D D3 ad H locs lsA hF hP hS hh)
theorem px_s_pop {d : Nat} {M : pM} {C : pC} {n pc : Nat} {ls : pL} {st : List pV} {h : pH} {q : Int32 × pH} {k : pK} (hd : decode M.2.1 pc = .ok (.pop, n)) (e : px_step M.1 M.2.2.2 C (.pop) n pc ls st h k = some q) (kk : ∀ pc' ls' st' h', k pc' ls' st' h' = some q → px_G d M pc' ls' st' h' q) : px_G d M pc ls st h q := by
  have e9 := px_if_some e
  clear e
  obtain ⟨hn, e⟩ := e9
  have hn := Nat.eq_of_beq_eq_true hn
  subst hn
  obtain ⟨v, r, rfl, e⟩ : ∃ v r, st = v :: r ∧ px_if (Nat.beq (px_cat v) 1) (k (pc + 1) ls r h) = some q := by
    split at e
    · exact ⟨_, _, rfl, e⟩
    · cases e
  have e9 := px_if_some e
  clear e
  obtain ⟨hc, e⟩ := e9
  intro p l e0 s m args below meth c D D3 ad H locs lsA hF hP hS hh
  obtain ⟨hx, hb, hml, hr, hown, hts, hlocks, hK, hN, hi⟩ := id hF
  exact lv_pop hx hb hd (px_cat_ok hc) (kk _ _ _ _ e p l e0 s m args below meth c D D3 ad H locs lsA hF hP hS hh)
theorem px_s_dup2 {d : Nat} {M : pM} {C : pC} {n pc : Nat} {ls : pL} {st : List pV} {h : pH} {q : Int32 × pH} {k : pK} (hd : decode M.2.1 pc = .ok (.dup2, n)) (e : px_step M.1 M.2.2.2 C (.dup2) n pc ls st h k = some q) (kk : ∀ pc' ls' st' h', k pc' ls' st' h' = some q → px_G d M pc' ls' st' h' q) : px_G d M pc ls st h q := by
  have e9 := px_if_some e
  clear e
  obtain ⟨hn, e⟩ := e9
  have hn := Nat.eq_of_beq_eq_true hn
  subst hn
  obtain ⟨v, w, r, rfl, e⟩ : ∃ v w r, st = v :: w :: r ∧ px_if (Nat.beq (px_cat v) 1 && Nat.beq (px_cat w) 1) (k (pc + 1) ls (v :: w :: v :: w :: r) h) = some q := by
    split at e
    · exact ⟨_, _, _, rfl, e⟩
    · cases e
  have e9 := px_if_some e
  clear e
  obtain ⟨hc, e⟩ := e9
  rw [Bool.and_eq_true] at hc
  intro p l e0 s m args below meth c D D3 ad H locs lsA hF hP hS hh
  obtain ⟨hx, hb, hml, hr, hown, hts, hlocks, hK, hN, hi⟩ := id hF
  exact lv_dup2_11 hx hb hd (px_cat_ok hc.1) (px_cat_ok hc.2) (kk _ _ _ _ e p l e0 s m args below meth c D D3 ad H locs lsA hF hP hS hh)
theorem px_s_dup_x1 {d : Nat} {M : pM} {C : pC} {n pc : Nat} {ls : pL} {st : List pV} {h : pH} {q : Int32 × pH} {k : pK} (hd : decode M.2.1 pc = .ok (.dup_x1, n)) (e : px_step M.1 M.2.2.2 C (.dup_x1) n pc ls st h k = some q) (kk : ∀ pc' ls' st' h', k pc' ls' st' h' = some q → px_G d M pc' ls' st' h' q) : px_G d M pc ls st h q := by
  have e9 := px_if_some e
  clear e
  obtain ⟨hn, e⟩ := e9
  have hn := Nat.eq_of_beq_eq_true hn
  subst hn
  obtain ⟨v, w, r, rfl, e⟩ : ∃ v w r, st = v :: w :: r ∧ px_if (Nat.beq (px_cat v) 1 && Nat.beq (px_cat w) 1) (k (pc + 1) ls (v :: w :: v :: r) h) = some q := by
    split at e
    · exact ⟨_, _, _, rfl, e⟩
    · cases e
  have e9 := px_if_some e
  clear e
  obtain ⟨hc, e⟩ := e9
  rw [Bool.and_eq_true] at hc
  intro p l e0 s m args below meth c D D3 ad H locs lsA hF hP hS hh
  obtain ⟨hx, hb, hml, hr, hown, hts, hlocks, hK, hN, hi⟩ := id hF
  exact lv_dup_x1 hx hb hd (px_cat_ok hc.1) (px_cat_ok hc.2) (kk _ _ _ _ e p l e0 s m args below meth c D D3 ad H locs lsA hF hP hS hh)
theorem px_s_ifCond {d : Nat} {M : pM} {C : pC} {n pc : Nat} {ls : pL} {st : List pV} {h : pH} {q : Int32 × pH} {k : pK} {o : ClassFile.Cond} {off : Int} (hd : decode M.2.1 pc = .ok (.ifCond o off, n)) (e : px_step M.1 M.2.2.2 C (.ifCond o off) n pc ls st h k = some q) (kk : ∀ pc' ls' st' h', k pc' ls' st' h' = some q → px_G d M pc' ls' st' h' q) : px_G d M pc ls st h q := by
  have e9 := px_if_some e
  clear e
  obtain ⟨hn, e⟩ := e9
  have hn := Nat.eq_of_beq_eq_true hn
  subst hn
  have e9 := px_i1_some e
  clear e
  obtain ⟨x, r, rfl, e⟩ := e9
  have e9 := px_tg_some e
  clear e
  obtain ⟨t, ht, e⟩ := e9
  intro p l e0 s m args below meth c D D3 ad H locs lsA hF hP hS hh
  obtain ⟨hx, hb, hml, hr, hown, hts, hlocks, hK, hN, hi⟩ := id hF
  cases o with
  | eq => exact lv_if_eq hx hb hd ht (fun c9 => (kk _ _ _ _ ((if_pos c9).symm.trans e) p l e0 s m args below meth c D D3 ad H locs lsA hF hP hS hh)) (fun c9 => (kk _ _ _ _ ((if_neg c9).symm.trans e) p l e0 s m args below meth c D D3 ad H locs lsA hF hP hS hh))
  | ne => exact lv_if_ne hx hb hd ht (fun c9 => (kk _ _ _ _ ((if_neg c9).symm.trans e) p l e0 s m args below meth c D D3 ad H locs lsA hF hP hS hh)) (fun c9 => (kk _ _ _ _ ((if_pos c9).symm.trans e) p l e0 s m args below meth c D D3 ad H locs lsA hF hP hS hh))
  | lt => exact lv_if_lt hx hb hd ht (fun c9 => (kk _ _ _ _ ((if_pos c9).symm.trans e) p l e0 s m args below meth c D D3 ad H locs lsA hF hP hS hh)) (fun c9 => (kk _ _ _ _ ((if_neg c9).symm.trans e) p l e0 s m args below meth c D D3 ad H locs lsA hF hP hS hh))
  | ge => exact lv_if_ge hx hb hd ht (fun c9 => (kk _ _ _ _ ((if_pos c9).symm.trans e) p l e0 s m args below meth c D D3 ad H locs lsA hF hP hS hh)) (fun c9 => (kk _ _ _ _ ((if_neg c9).symm.trans e) p l e0 s m args below meth c D D3 ad H locs lsA hF hP hS hh))
  | gt => exact lv_if_gt hx hb hd ht (fun c9 => (kk _ _ _ _ ((if_pos c9).symm.trans e) p l e0 s m args below meth c D D3 ad H locs lsA hF hP hS hh)) (fun c9 => (kk _ _ _ _ ((if_neg c9).symm.trans e) p l e0 s m args below meth c D D3 ad H locs lsA hF hP hS hh))
  | le => exact lv_if_le hx hb hd ht (fun c9 => (kk _ _ _ _ ((if_pos c9).symm.trans e) p l e0 s m args below meth c D D3 ad H locs lsA hF hP hS hh)) (fun c9 => (kk _ _ _ _ ((if_neg c9).symm.trans e) p l e0 s m args below meth c D D3 ad H locs lsA hF hP hS hh))
theorem px_s_if_icmp {d : Nat} {M : pM} {C : pC} {n pc : Nat} {ls : pL} {st : List pV} {h : pH} {q : Int32 × pH} {k : pK} {o : ClassFile.Cond} {off : Int} (hd : decode M.2.1 pc = .ok (.if_icmp o off, n)) (e : px_step M.1 M.2.2.2 C (.if_icmp o off) n pc ls st h k = some q) (kk : ∀ pc' ls' st' h', k pc' ls' st' h' = some q → px_G d M pc' ls' st' h' q) : px_G d M pc ls st h q := by
  have e9 := px_if_some e
  clear e
  obtain ⟨hn, e⟩ := e9
  have hn := Nat.eq_of_beq_eq_true hn
  subst hn
  have e9 := px_i2_some e
  clear e
  obtain ⟨x, y, r, rfl, e⟩ := e9
  have e9 := px_tg_some e
  clear e
  obtain ⟨t, ht, e⟩ := e9
  intro p l e0 s m args below meth c D D3 ad H locs lsA hF hP hS hh
  obtain ⟨hx, hb, hml, hr, hown, hts, hlocks, hK, hN, hi⟩ := id hF
  cases o with
  | eq => exact lv_icmp_eq hx hb hd ht (fun c9 => (kk _ _ _ _ ((if_pos c9).symm.trans e) p l e0 s m args below meth c D D3 ad H locs lsA hF hP hS hh)) (fun c9 => (kk _ _ _ _ ((if_neg c9).symm.trans e) p l e0 s m args below meth c D D3 ad H locs lsA hF hP hS hh))
  | ne => exact lv_icmp_ne hx hb hd ht (fun c9 => (kk _ _ _ _ ((if_neg c9).symm.trans e) p l e0 s m args below meth c D D3 ad H locs lsA hF hP hS hh)) (fun c9 => (kk _ _ _ _ ((if_pos c9).symm.trans e) p l e0 s m args below meth c D D3 ad H locs lsA hF hP hS hh))
  | lt => exact lv_icmp_lt hx hb hd ht (fun c9 => (kk _ _ _ _ ((if_pos c9).symm.trans e) p l e0 s m args below meth c D D3 ad H locs lsA hF hP hS hh)) (fun c9 => (kk _ _ _ _ ((if_neg c9).symm.trans e) p l e0 s m args below meth c D D3 ad H locs lsA hF hP hS hh))
  | ge => exact lv_icmp_ge hx hb hd ht (fun c9 => (kk _ _ _ _ ((if_pos c9).symm.trans e) p l e0 s m args below meth c D D3 ad H locs lsA hF hP hS hh)) (fun c9 => (kk _ _ _ _ ((if_neg c9).symm.trans e) p l e0 s m args below meth c D D3 ad H locs lsA hF hP hS hh))
  | gt => exact lv_icmp_gt hx hb hd ht (fun c9 => (kk _ _ _ _ ((if_pos c9).symm.trans e) p l e0 s m args below meth c D D3 ad H locs lsA hF hP hS hh)) (fun c9 => (kk _ _ _ _ ((if_neg c9).symm.trans e) p l e0 s m args below meth c D D3 ad H locs lsA hF hP hS hh))
  | le => exact lv_icmp_le hx hb hd ht (fun c9 => (kk _ _ _ _ ((if_pos c9).symm.trans e) p l e0 s m args below meth c D D3 ad H locs lsA hF hP hS hh)) (fun c9 => (kk _ _ _ _ ((if_neg c9).symm.trans e) p l e0 s m args below meth c D D3 ad H locs lsA hF hP hS hh))
theorem px_s_goto {d : Nat} {M : pM} {C : pC} {n pc : Nat} {ls : pL} {st : List pV} {h : pH} {q : Int32 × pH} {k : pK} {off : Int} (hd : decode M.2.1 pc = .ok (.goto off, n)) (e : px_step M.1 M.2.2.2 C (.goto off) n pc ls st h k = some q) (kk : ∀ pc' ls' st' h', k pc' ls' st' h' = some q → px_G d M pc' ls' st' h' q) : px_G d M pc ls st h q := by
  have e9 := px_if_some e
  clear e
  obtain ⟨hn, e⟩ := e9
  have hn := Nat.eq_of_beq_eq_true hn
  subst hn
  have e9 := px_tg_some e
  clear e
  obtain ⟨t, ht, e⟩ := e9
  intro p l e0 s m args below meth c D D3 ad H locs lsA hF hP hS hh
  obtain ⟨hx, hb, hml, hr, hown, hts, hlocks, hK, hN, hi⟩ := id hF
  exact lv_goto hx hb hd ht (kk _ _ _ _ e p l e0 s m args below meth c D D3 ad H locs lsA hF hP hS hh)
