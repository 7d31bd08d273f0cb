/-! Calls as instructions; every instruction; blocks; contracts -/
theorem px_call_some {C : pC} {id : Nat} {sta : Bool} {pc : Nat} {ls : pL} {st : List pV} {h : pH} {k : pK} {q : Int32 × pH} (e : px_call C id sta pc ls st h k = some q) :
    ∃ y b nLc rtc np ci as r x h1, px_nth px_mt id = some (y, b, nLc, rtc, sta, np, ci) ∧ as.length = np ∧ px_low r = true ∧ k (pc + 3) ls (match rtc with
      | none => r
      | some _ => .inl x :: r) h1 = some q ∧ ((sta = true ∧ st = as.reverse ++ r ∧ C id as h = some (x, h1)) ∨ (sta = false ∧ ∃ a0, px_tag a0 = ci + 10 ∧ st = as.reverse ++ .inr (.inl a0) :: r ∧ C id (.inr (.inl a0) :: as) h = some (x, h1))) := by
  unfold px_call at e
  split at e
  · cases e
  · rename_i y b nLc rtc s0 np ci hid
    split at e
    · split at e
      · cases e
      · rename_i as r hp
        have e9 := px_if_some e
        clear e
        obtain ⟨hl, e⟩ := e9
        have e9 := px_bind_some e
        clear e
        obtain ⟨x, h1, hC, e⟩ := e9
        obtain ⟨g1, g2⟩ := px_popn_some hp
        exact ⟨y, b, nLc, rtc, np, ci, as, r, x, h1, hid, g2, hl, e, Or.inl ⟨rfl, g1, hC⟩⟩
    · split at e
      · cases e
      · rename_i as b0 r hp
        have e9 := px_if_some e
        clear e
        obtain ⟨hl, e⟩ := e9
        rw [Bool.and_eq_true] at hl
        have e9 := px_bind_some e
        clear e
        obtain ⟨x, h1, hC, e⟩ := e9
        obtain ⟨g1, g2⟩ := px_popn_some hp
        exact ⟨y, b, nLc, rtc, np, ci, as, r, x, h1, hid, g2, hl.2, e, Or.inr ⟨rfl, b0, Nat.eq_of_beq_eq_true hl.1, g1, hC⟩⟩
      · cases e
    · cases e
theorem px_push_map {rtc : Option FieldType} {x : Int32} {r : List pV} {ad : Nat → Nat} : (match rtc with
      | none => r
      | some _ => .inl x :: r : List pV).map (pv ad) = px_push rtc x (r.map (pv ad)) := by
  cases rtc <;> rfl
theorem px_s_invokevirtual {d : Nat} {M : pM} {C : pC} {n pc : Nat} {ls : pL} {st : List pV} {h : pH} {q : Int32 × pH} {k : pK} {j : Nat} (hOr : px_Or d C) (hM : px_ctxB M.1 = true) (hd : decode M.2.1 pc = .ok (.invokevirtual j, n)) (e : px_step M.1 M.2.2.2 C (.invokevirtual j) n pc ls st h k = some q) (kk : ∀ pc' ls' st' h', k pc' ls' st' h' = some q → px_G (d + 1) M pc' ls' st' h' q) : px_G (d + 1) M pc ls st h q := by
  have e9 := px_if_some e
  clear e
  obtain ⟨hn, e⟩ := e9
  have hn := Nat.eq_of_beq_eq_true hn
  subst hn
  split at e
  · cases e
  · rename_i qq hj
    obtain ⟨y, b, nLc, rtc, np, ci, as, r, x, h1, hid, hlen, hlow, ek, hor⟩ := px_call_some e
    rcases hor with ⟨hs, -, -⟩ | ⟨-, a0, ht, rfl, hC⟩
    · cases hs
    · have hb : Nat.ble 1000 qq.1 = false := by
        cases hq : Nat.ble 1000 qq.1 with
        | false => rfl
        | true =>
          have h9 := Nat.le_of_ble_eq_true hq
          rw [px_nth_eq, List.getElem?_eq_none (Nat.le_trans (by decide +kernel) h9)] at hid
          cases hid
      obtain ⟨r9, hr9, hl⟩ := px_ctx_m hM hj hb
      rw [hid] at hr9
      cases hr9
      intro p l e0 s m args below meth c D D3 ad H locs lsA hF hP hS hh
      exact px_invV (id := qq.1) (q := (x, h1)) hid hl (hOr _ _ _ _ hC) hF hP hS hh.1 hd hlen ht hlow (fun H1 locs1 hP1 hS1 => by
        have h8 := kk _ _ _ _ ek p l e0 s m args below meth c D D3 ad H1 locs1 lsA hF hP1 hS1 hh
        rw [px_push_map] at h8
        exact h8)
theorem px_math {s : State} {args : Array Value} (hts : ∀ w ∈ px_TB, w.before args s = true) {w : Jvm.Cond} (hw : decide (w ∈ lw_tbl) = true) (hg : goodWord w = true) : w.before args s = true := hts _ (px_TB_of (of_decide_eq_true hw) hg)
set_option maxRecDepth 20000 in
theorem px_mathw : (decide (Jvm.Cond.initialized "java/lang/Math" ∈ lw_tbl) && (decide (Jvm.Cond.static Lib.Math.max.name ∈ lw_tbl) && (decide (Jvm.Cond.static Lib.Math.min.name ∈ lw_tbl) && (decide (Jvm.Cond.static Lib.Math.abs.name ∈ lw_tbl) && (decide (Jvm.Cond.static Lib.MathLoose.max_long.x ∈ lw_tbl) && decide (Jvm.Cond.static Lib.MathLoose.min_long.x ∈ lw_tbl)))))) = true := by decide +kernel
