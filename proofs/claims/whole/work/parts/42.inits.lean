/-! The constructors' machine, an instruction at a time -/
theorem qi_b8 {v : Int} (h1 : -128 ≤ v) (h2 : v ≤ 127) : (Int8.ofInt v).toInt32 = Int32.ofInt v := (px_b8 h1 h2).trans (px_c_eq v)
theorem qi_b16 {v : Int} (h1 : -32768 ≤ v) (h2 : v ≤ 32767) : (Int16.ofInt v).toInt32 = Int32.ofInt v := (px_b16 h1 h2).trans (px_c_eq v)
theorem qi_s_iconst {d mc ms : Nat} {X : qX} {b : ByteArray} {nL : Nat} {qt : List qM} {C : qC} {n pc : Nat} {ls : pL} {st : List pV} {I If : qI} {cs sl : Nat} {k : Nat → pL → List pV → qI → Nat → Nat → Option qI} {v : Int} (hX : qi_ctxB qt X = true) (hd : decode b pc = .ok (.iconst v, n)) (e : qi_step X qt C mc ms (.iconst v) n pc ls st I cs sl k = some If) (kk : ∀ pc' ls' st' I' cs' sl', k pc' ls' st' I' cs' sl' = some If → qi_G d X.1 b nL mc ms pc' ls' st' I' cs' sl' If) : qi_G d X.1 b nL mc ms pc ls st I cs sl If := by
  have e9 := qi_if_some e
  clear e
  obtain ⟨hn, e⟩ := e9
  have hn := Nat.eq_of_beq_eq_true hn
  subst hn
  intro p l e0 s m args below meth c D D3 ad A H locs lsA ad0 n0 hF hn0 h0 hP hD hS hh
  obtain ⟨hx, hb, hml, hr, hown, hts, hlocks, hK, hN, hin, hA⟩ := id hF
  exact lv_iconst hx hb hd rfl (kk _ _ _ _ _ _ e p l e0 s m args below meth c D D3 ad A H locs lsA ad0 n0 hF hn0 h0 hP hD hS hh)
theorem qi_s_bipush {d mc ms : Nat} {X : qX} {b : ByteArray} {nL : Nat} {qt : List qM} {C : qC} {n pc : Nat} {ls : pL} {st : List pV} {I If : qI} {cs sl : Nat} {k : Nat → pL → List pV → qI → Nat → Nat → Option qI} {v : Int} (hX : qi_ctxB qt X = true) (hd : decode b pc = .ok (.bipush v, n)) (e : qi_step X qt C mc ms (.bipush v) n pc ls st I cs sl k = some If) (kk : ∀ pc' ls' st' I' cs' sl', k pc' ls' st' I' cs' sl' = some If → qi_G d X.1 b nL mc ms pc' ls' st' I' cs' sl' If) : qi_G d X.1 b nL mc ms pc ls st I cs sl If := by
  have e9 := qi_if_some e
  clear e
  obtain ⟨hn, e⟩ := e9
  rw [Bool.and_eq_true, Bool.and_eq_true] at hn
  obtain ⟨hn, h1, h2⟩ := hn
  have hn := Nat.eq_of_beq_eq_true hn
  subst hn
  intro p l e0 s m args below meth c D D3 ad A H locs lsA ad0 n0 hF hn0 h0 hP hD hS hh
  obtain ⟨hx, hb, hml, hr, hown, hts, hlocks, hK, hN, hin, hA⟩ := id hF
  exact lv_bipush hx hb hd (qi_b8 (of_decide_eq_true h1) (of_decide_eq_true h2)) (kk _ _ _ _ _ _ e p l e0 s m args below meth c D D3 ad A H locs lsA ad0 n0 hF hn0 h0 hP hD hS hh)
theorem qi_s_sipush {d mc ms : Nat} {X : qX} {b : ByteArray} {nL : Nat} {qt : List qM} {C : qC} {n pc : Nat} {ls : pL} {st : List pV} {I If : qI} {cs sl : Nat} {k : Nat → pL → List pV → qI → Nat → Nat → Option qI} {v : Int} (hX : qi_ctxB qt X = true) (hd : decode b pc = .ok (.sipush v, n)) (e : qi_step X qt C mc ms (.sipush v) n pc ls st I cs sl k = some If) (kk : ∀ pc' ls' st' I' cs' sl', k pc' ls' st' I' cs' sl' = some If → qi_G d X.1 b nL mc ms pc' ls' st' I' cs' sl' If) : qi_G d X.1 b nL mc ms pc ls st I cs sl If := by
  have e9 := qi_if_some e
  clear e
  obtain ⟨hn, e⟩ := e9
  rw [Bool.and_eq_true, Bool.and_eq_true] at hn
  obtain ⟨hn, h1, h2⟩ := hn
  have hn := Nat.eq_of_beq_eq_true hn
  subst hn
  intro p l e0 s m args below meth c D D3 ad A H locs lsA ad0 n0 hF hn0 h0 hP hD hS hh
  obtain ⟨hx, hb, hml, hr, hown, hts, hlocks, hK, hN, hin, hA⟩ := id hF
  exact lv_sipush hx hb hd (qi_b16 (of_decide_eq_true h1) (of_decide_eq_true h2)) (kk _ _ _ _ _ _ e p l e0 s m args below meth c D D3 ad A H locs lsA ad0 n0 hF hn0 h0 hP hD hS hh)
theorem qi_s_aload_n {d mc ms : Nat} {X : qX} {b : ByteArray} {nL : Nat} {qt : List qM} {C : qC} {n pc : Nat} {ls : pL} {st : List pV} {I If : qI} {cs sl : Nat} {k : Nat → pL → List pV → qI → Nat → Nat → Option qI} {j : Fin 4} (hX : qi_ctxB qt X = true) (hd : decode b pc = .ok (.aload_n j, n)) (e : qi_step X qt C mc ms (.aload_n j) n pc ls st I cs sl k = some If) (kk : ∀ pc' ls' st' I' cs' sl', k pc' ls' st' I' cs' sl' = some If → qi_G d X.1 b nL mc ms pc' ls' st' I' cs' sl' If) : qi_G d X.1 b nL mc ms pc ls st I cs sl If := by
  have e9 := qi_if_some e
  clear e
  obtain ⟨hn, e⟩ := e9
  have hn := Nat.eq_of_beq_eq_true hn
  subst hn
  split at e
  · rename_i a hv
    intro p l e0 s m args below meth c D D3 ad A H locs lsA ad0 n0 hF hn0 h0 hP hD hS hh
    obtain ⟨hx, hb, hml, hr, hown, hts, hlocks, hK, hN, hin, hA⟩ := id hF
    exact lv_aload_n hx hb hd rfl (hh.2.2.2 _ _ hv) (kk _ _ _ _ _ _ e p l e0 s m args below meth c D D3 ad A H locs lsA ad0 n0 hF hn0 h0 hP hD hS hh)
  · cases e
theorem qi_s_dup {d mc ms : Nat} {X : qX} {b : ByteArray} {nL : Nat} {qt : List qM} {C : qC} {n pc : Nat} {ls : pL} {st : List pV} {I If : qI} {cs sl : Nat} {k : Nat → pL → List pV → qI → Nat → Nat → Option qI} (hX : qi_ctxB qt X = true) (hd : decode b pc = .ok (.dup, n)) (e : qi_step X qt C mc ms (.dup) n pc ls st I cs sl k = some If) (kk : ∀ pc' ls' st' I' cs' sl', k pc' ls' st' I' cs' sl' = some If → qi_G d X.1 b nL mc ms pc' ls' st' I' cs' sl' If) : qi_G d X.1 b nL mc ms pc ls st I cs sl If := by
  have e9 := qi_if_some e
  clear e
  obtain ⟨hn, e⟩ := e9
  have hn := Nat.eq_of_beq_eq_true hn
  subst hn
  split at e
  · rename_i a r
    intro p l e0 s m args below meth c D D3 ad A H locs lsA ad0 n0 hF hn0 h0 hP hD hS hh
    obtain ⟨hx, hb, hml, hr, hown, hts, hlocks, hK, hN, hin, hA⟩ := id hF
    exact lv_dup hx hb hd rfl (kk _ _ _ _ _ _ e p l e0 s m args below meth c D D3 ad A H locs lsA ad0 n0 hF hn0 h0 hP hD hS hh)
  · cases e
theorem qi_s_getfield {d mc ms : Nat} {X : qX} {b : ByteArray} {nL : Nat} {qt : List qM} {C : qC} {n pc : Nat} {ls : pL} {st : List pV} {I If : qI} {cs sl : Nat} {k : Nat → pL → List pV → qI → Nat → Nat → Option qI} {j : Nat} (hX : qi_ctxB qt X = true) (hd : decode b pc = .ok (.getfield j, n)) (e : qi_step X qt C mc ms (.getfield j) n pc ls st I cs sl k = some If) (kk : ∀ pc' ls' st' I' cs' sl', k pc' ls' st' I' cs' sl' = some If → qi_G d X.1 b nL mc ms pc' ls' st' I' cs' sl' If) : qi_G d X.1 b nL mc ms pc ls st I cs sl If := by
  have e9 := qi_if_some e
  clear e
  obtain ⟨hn, e⟩ := e9
  have hn := Nat.eq_of_beq_eq_true hn
  subst hn
  split at e
  · rename_i a r
    split at e
    · rename_i qq hj
      split at e
      · rename_i v hv
        have e9 := qi_if_some e
        clear e
        obtain ⟨ht, e⟩ := e9
        have hXf := hX
        unfold qi_ctxB at hXf
        rw [Bool.and_eq_true] at hXf
        have h1 := List.all_eq_true.mp hXf.1 _ (px_find_mem hj)
        unfold px_fB at h1
        split at h1
        · cases h1
        · rename_i cr hcr
          rw [Bool.and_eq_true, Bool.and_eq_true, Bool.or_eq_true] at h1
          have hkN : qq.2.1 < cr.2.2 := by simpa [Nat.blt_eq] using h1.1
          have hT := of_decide_eq_true h1.2.1
          have hci : qq.1 ≠ 999999999 := fun h => by rw [h] at hcr; simp [px_cl] at hcr
          intro p l e0 s m args below meth c D D3 ad A H locs lsA ad0 n0 hF hn0 h0 hP hD hS hh
          obtain ⟨hx, hb, hml, hr, hown, hts, hlocks, hK, hN, hin, hA⟩ := id hF
          have hsame : ∀ x, s.fieldFound? (cr.2.1 qq.2.1).1 (cr.2.1 qq.2.1).2.1 (cr.2.1 qq.2.1).2.2.1 = some x → s.fieldFound? cr.1 (cr.2.1 qq.2.1).2.1 (cr.2.1 qq.2.1).2.2.1 = some x := fun x hx9 => by rw [← hT]; exact hx9
          have hvv : ((qi_at I a).2.2.map (qi_fv ad))[qq.2.1]? = some (pv ad v) := by
            rw [px_nth_eq] at hv
            rw [List.getElem?_map, hv]
            rfl
          have hk1 := (kk _ _ _ _ _ _ e p l e0 s m args below meth c D D3 ad A H locs lsA ad0 n0 hF hn0 h0 hP hD hS hh)
          rcases h1.2.2 with h2 | h2
          · exact va_get hx hb hts (px_cl_in hcr) hown hK hP a (qi_obj ht hci) hcr qq.2.1 hkN (hts _ (px_TB_of (px_at_mem h2) rfl)) hsame hvv hd hk1
          · exact va_getN hx hb hts (px_cl_in hcr) hown hK hP a (qi_obj ht hci) hcr qq.2.1 hkN (va_Nw.use rfl (hN _ (px_TN_of (px_at_mem h2) rfl))) hsame hvv hd hk1
      · cases e
    · cases e
  · cases e
theorem qi_s_putfield {d mc ms : Nat} {X : qX} {b : ByteArray} {nL : Nat} {qt : List qM} {C : qC} {n pc : Nat} {ls : pL} {st : List pV} {I If : qI} {cs sl : Nat} {k : Nat → pL → List pV → qI → Nat → Nat → Option qI} {j : Nat} (hX : qi_ctxB qt X = true) (hd : decode b pc = .ok (.putfield j, n)) (e : qi_step X qt C mc ms (.putfield j) n pc ls st I cs sl k = some If) (kk : ∀ pc' ls' st' I' cs' sl', k pc' ls' st' I' cs' sl' = some If → qi_G d X.1 b nL mc ms pc' ls' st' I' cs' sl' If) : qi_G d X.1 b nL mc ms pc ls st I cs sl If := by
  have e9 := qi_if_some e
  clear e
  obtain ⟨hn, e⟩ := e9
  have hn := Nat.eq_of_beq_eq_true hn
  subst hn
  split at e
  · rename_i v a r
    split at e
    · rename_i qq hj
      have e9 := qi_if_some e
      clear e
      obtain ⟨ht, e⟩ := e9
      rw [Bool.and_eq_true] at ht
      split at e
      · rename_i cr2 hcr2
        have e9 := qi_if_some e
        clear e
        obtain ⟨hty1, e⟩ := e9
        have e9 := qi_if_some e
        clear e
        obtain ⟨hfin, e⟩ := e9
        have hXf := hX
        unfold qi_ctxB at hXf
        rw [Bool.and_eq_true] at hXf
        have h1 := List.all_eq_true.mp hXf.1 _ (px_find_mem hj)
        unfold px_fB at h1
        split at h1
        · cases h1
        · rename_i cr hcr
          have hcc : cr2 = cr := Option.some.inj (hcr2.symm.trans hcr)
          subst hcc
          rw [Bool.and_eq_true, Bool.and_eq_true, Bool.or_eq_true] at h1
          have hkN : qq.2.1 < cr2.2.2 := by simpa [Nat.blt_eq] using h1.1
          have hT := of_decide_eq_true h1.2.1
          have hci : qq.1 ≠ 999999999 := fun h => by rw [h] at hcr; simp [px_cl] at hcr
          obtain ⟨hnm, ty0, hty⟩ := px_cl_ty hcr
          intro p l e0 s m args below meth c D D3 ad A H locs lsA ad0 n0 hF hn0 h0 hP hD hS hh
          obtain ⟨hx, hb, hml, hr, hown, hts, hlocks, hK, hN, hin, hA⟩ := id hF
          have hsame : ∀ x, s.fieldFound? (cr2.2.1 qq.2.1).1 (cr2.2.1 qq.2.1).2.1 (cr2.2.1 qq.2.1).2.2.1 = some x → s.fieldFound? cr2.1 (cr2.2.1 qq.2.1).2.1 (cr2.2.1 qq.2.1).2.2.1 = some x := fun x hx9 => by rw [← hT]; exact hx9
          have hset : (qi_ws D3 ad I).set a (ad a, .inr (qq.1, ((qi_at I a).2.2.map (qi_fv ad)).set qq.2.1 (pv ad v))) = qi_ws D3 ad (I.set a ((qi_at I a).1, (qi_at I a).2.1, (qi_at I a).2.2.set qq.2.1 (some v))) := by
            have h9 := qi_go_set (D3 := D3) (ad := ad) I ((qi_at I a).1, (qi_at I a).2.1, (qi_at I a).2.2.set qq.2.1 (some v)) 0 a
            have hb4 : Nat.blt (qi_at I a).1 4 = false := by
              have := Nat.eq_of_beq_eq_true ht.1
              cases hq : Nat.blt (qi_at I a).1 4 with
              | false => rfl
              | true =>
                have := (Nat.blt_eq).mp hq
                omega
            have h8 : qi_ent D3 ad ((qi_at I a).1, (qi_at I a).2.1, (qi_at I a).2.2.set qq.2.1 (some v)) = .inr (qq.1, ((qi_at I a).2.2.map (qi_fv ad)).set qq.2.1 (pv ad v)) := by
              unfold qi_ent
              dsimp only
              rw [hb4]
              dsimp only
              rw [Nat.eq_of_beq_eq_true ht.1, List.map_set]
              rfl
            rw [h8, Nat.zero_add] at h9
            exact h9
          have hlen : qq.2.1 < ((qi_at I a).2.2.map (qi_fv ad)).length := by simpa [Nat.blt_eq] using ht.2
          have hnf : ∃ ty, parseFieldDescriptor (cr2.2.1 qq.2.1).2.2.1 = some ty ∧ narrow ty (pv ad v) = pv ad v ∧ fits ty (pv ad v) = true := by
            clear hset
            split at hty1
            · rename_i x
              rw [Bool.or_eq_true, Bool.and_eq_true] at hty1
              rcases hty1 with h | ⟨h, h3⟩
              · exact ⟨.int, by rw [of_decide_eq_true h]; rfl, rfl, rfl⟩
              · have hx0 : x = 0 := of_decide_eq_true h3
                subst hx0
                exact ⟨.boolean, by rw [of_decide_eq_true h]; rfl, rfl, rfl⟩
            · rename_i x
              split at hty1
              · rename_i t ht9
                exact ⟨_, ht9, rfl, rfl⟩
              · rename_i t ht9
                exact ⟨_, ht9, rfl, rfl⟩
              · cases hty1
            · cases hty1
          obtain ⟨ty, hd2, hnar, hfit⟩ := hnf
          have hgo : ∀ (H1 : Heap) (locs1 : List Loc), va_P D px_cl ((qi_ws D3 ad I).set a (ad a, .inr (qq.1, ((qi_at I a).2.2.map (qi_fv ad)).set qq.2.1 (pv ad v)))) H1 → va_D A ((qi_ws D3 ad I).set a (ad a, .inr (qq.1, ((qi_at I a).2.2.map (qi_fv ad)).set qq.2.1 (pv ad v)))) → va_S A s.heap H1 locs1 → W p l e0 (qi_rm d mc ms) s m args below meth c H1 locs1 cs sl (MQ below (qi_Q D D3 ad0 n0 A If) args s mc ms A) (F0 m (pc + 3) lsA (r.map (pv ad))) := fun H1 locs1 hP1 hD1 hS1 => by
            rw [hset] at hP1 hD1
            exact (kk _ _ _ _ _ _ e p l e0 s m args below meth c D D3 ad A H1 locs1 lsA ad0 n0 hF (by rw [List.length_set]; exact hn0) h0 hP1 hD1 hS1 hh)
          cases hff : (cr2.2.1 qq.2.1).2.2.2 with
          | false =>
            rcases h1.2.2 with h2 | h2
            · exact va_put hx hb hts (px_cl_in hcr) ty0 hty hnm hown hK hP hD hS a (qi_obj ht.1 hci) hcr qq.2.1 hkN (hts _ (px_TB_of (px_at_mem h2) rfl)) hsame hff hd2 hnar hfit hlen hd hgo
            · exact va_putN hx hb hts (px_cl_in hcr) ty0 hty hnm hown hK hP hD hS a (qi_obj ht.1 hci) hcr qq.2.1 hkN (va_Nw.use rfl (hN _ (px_TN_of (px_at_mem h2) rfl))) hsame hff hd2 hnar hfit hlen hd hgo
          | true =>
            rw [hff] at hfin
            have hfin2 : (decide (cr2.1 = X.1) && px_at qq.2.2 (.fieldLink X.1 j cr2.1 (cr2.2.1 qq.2.1).2.1 (cr2.2.1 qq.2.1).2.2.1)) = true := by
              cases hq : (decide (cr2.1 = X.1) && px_at qq.2.2 (.fieldLink X.1 j cr2.1 (cr2.2.1 qq.2.1).2.1 (cr2.2.1 qq.2.1).2.2.1)) with
              | true => rfl
              | false =>
                rw [hq] at hfin
                cases hfin
            rw [Bool.and_eq_true] at hfin2
            exact va_putF hx hb hts (px_cl_in hcr) ty0 hty hnm hown hK hP hD hS a (qi_obj ht.1 hci) hcr qq.2.1 hkN (hts _ (px_TB_of (px_at_mem hfin2.2) rfl)) hsame hff hin (by rw [hT]; exact of_decide_eq_true hfin2.1) hd2 hnar hfit hlen hd hgo
      · cases e
    · cases e
  · cases e
theorem qi_newarr {d mc ms : Nat} {own : String} {b : ByteArray} {nL : Nat} {pc tg N : Nat} {atype : ArrayType} {ls : pL} {x : Int32} {r : List pV} {I If : qI} {cs sl : Nat} (ht4 : tg < 4) (hta : ∀ D3 : Nat → ClassId, (px_tys D3)[tg]? = some (D3 tg, newarray.typeOf atype)) (hno : ∀ U : State, ∀ cA, va_RA U cA (newarray.typeOf atype) → U.vm.findClass ("[" ++ (newarray.typeOf atype).toString) = some cA) (hw : Jvm.Cond.arrayClass (newarray.typeOf atype) ∈ px_TB) (hdv : defaultValue (newarray.typeOf atype) = .int 0) (hcb : componentBytes (newarray.typeOf atype) ≤ 8)
    (hd : decode b pc = .ok (.newarray atype, 2)) (hx0 : 0 ≤ x) (hN : x.toNatClampNeg = N) (hby : N * 8 ≤ 536870912) (hc1 : cs + 1 ≤ mc) (hs1 : sl + N ≤ ms) (hclo : qi_clo I.length I = true) (hcl : ls.all (qi_cv I.length) = true) (hcr : r.all (fun v => qi_cv I.length (some v)) = true)
    (kk : qi_G d own b nL mc ms (pc + 2) ls (.inr (.inl I.length) :: r) (I ++ [(tg, N, [])]) (cs + 1) (sl + N) If) : qi_G d own b nL mc ms pc ls (.inl x :: r) I cs sl If := by
  intro p l e0 s m args below meth c D D3 ad A H locs lsA ad0 n0 hF hn0 h0 hP hD hS hh
  obtain ⟨hx, hb, hml, hr, hown, hts, hlocks, hK, hNN, hin, hA⟩ := id hF
  have hneg : ¬ x < 0 := by
    rw [Int32.le_iff_toInt_le] at hx0
    rw [Int32.lt_iff_toInt_lt]
    omega
  refine va_newaK (N := N) hx hb (hts _ hw) rfl hd rfl hneg hN (Nat.le_trans (Nat.mul_le_mul_left _ hcb) hby) hc1 hs1 rfl fun H1 cA e1 z1 o1 hAr hNm => ?_
  have hcA : cA = D3 tg := Option.some.inj (hNm.symm.trans (hno _ _ (hK.2 tg _ (hta D3)).2))
  subst hcA
  have hk : ∀ (k : Nat) (x : Nat × va_E), (qi_ws D3 ad I)[k]? = some x → H1[x.1]? = H[x.1]? := fun k x hx => o1 x.1 ((hP k x hx).lt)
  have hent : qi_ent D3 ad (tg, N, []) = .inl (D3 tg, (N, .inl fun _ => 0)) := by
    unfold qi_ent
    have : Nat.blt tg 4 = true := by simpa [Nat.blt_eq] using ht4
    dsimp only
    rw [this]
  have hup : ∀ k, k < I.length → qi_up ad I.length H.size k = ad k := fun k hk => qi_up_lt hk
  have hmore := qi_more (D3 := D3) (ad := ad) (I := I) (e := (tg, N, [])) (q := H.size) hclo rfl
  have hP1 : va_P D px_cl (qi_ws D3 (qi_up ad I.length H.size) (I ++ [(tg, N, [])])) H1 := by
    rw [hmore, hent]
    refine (hP.kept hk).app (fun k x hx => ?_)
    have hz : k < 1 := (List.getElem?_eq_some_iff.mp hx).1
    rw [show k = 0 by omega] at hx
    cases hx
    show H1[H.size]? = some (vp_cell _ _)
    rw [e1, vp_cell_i, hdv]
  have hD1 : va_D A (qi_ws D3 (qi_up ad I.length H.size) (I ++ [(tg, N, [])])) := by
    rw [hmore, hent]
    exact hD.push hP rfl (hA _ hS.1)
  have hS1 : va_S A s.heap H1 locs := ⟨Nat.le_trans hS.1 (by omega), fun x h1 h2 => (o1 x (Nat.lt_of_lt_of_le h1 hS.1)).trans (hS.2.1 x h1 h2), hS.2.2⟩
  have h9 := kk p l e0 s m args below meth c D D3 (qi_up ad I.length H.size) A H1 locs lsA ad0 n0 hF (by rw [List.length_append]; omega) (fun k hk9 => (hup k (by omega)).trans (h0 k hk9)) hP1 hD1 hS1 (qi_has_eq hup hcl hh)
  rw [List.map_cons, qi_st_eq hup hcr] at h9
  have h8 : pv (qi_up ad I.length H.size) (.inr (.inl I.length)) = .ref H.size := by
    show Value.ref (qi_up ad I.length H.size I.length) = _
    rw [qi_up_self]
  rw [h8] at h9
  exact h9
theorem qi_s_newarray {d mc ms : Nat} {X : qX} {b : ByteArray} {nL : Nat} {qt : List qM} {C : qC} {n pc : Nat} {ls : pL} {st : List pV} {I If : qI} {cs sl : Nat} {k : Nat → pL → List pV → qI → Nat → Nat → Option qI} {t : ArrayType} (hX : qi_ctxB qt X = true) (hd : decode b pc = .ok (.newarray t, n)) (e : qi_step X qt C mc ms (.newarray t) n pc ls st I cs sl k = some If) (kk : ∀ pc' ls' st' I' cs' sl', k pc' ls' st' I' cs' sl' = some If → qi_G d X.1 b nL mc ms pc' ls' st' I' cs' sl' If) : qi_G d X.1 b nL mc ms pc ls st I cs sl If := by
  unfold qi_step at e
  dsimp only at e
  split at e
  · rename_i tg x r htg
    have e9 := qi_if_some e
    clear e
    obtain ⟨hn, e⟩ := e9
    simp only [Bool.and_eq_true, decide_eq_true_eq] at hn
    obtain ⟨h1, h2, h3, h4, h5, h6, h7, h8⟩ := hn
    have h1 := Nat.eq_of_beq_eq_true h1
    subst h1
    have h3 := Nat.le_of_ble_eq_true h3
    have h4 := Nat.le_of_ble_eq_true h4
    have h5 := Nat.le_of_ble_eq_true h5
    cases t <;> simp only [Option.some.injEq, reduceCtorEq] at htg <;> subst htg
    · exact qi_newarr (atype := .boolean) (tg := 3) (by decide) (fun _ => rfl) (fun _ _ h => h) qi_arr.2.2.2.1 rfl (by decide) hd h2 rfl h3 h4 h5 h6 h7 h8 (kk _ _ _ _ _ _ e)
    · exact qi_newarr (atype := .char) (tg := 2) (by decide) (fun _ => rfl) (fun _ _ h => h) qi_arr.2.2.1 rfl (by decide) hd h2 rfl h3 h4 h5 h6 h7 h8 (kk _ _ _ _ _ _ e)
    · exact qi_newarr (atype := .byte) (tg := 1) (by decide) (fun _ => rfl) (fun _ _ h => h) qi_arr.2.1 rfl (by decide) hd h2 rfl h3 h4 h5 h6 h7 h8 (kk _ _ _ _ _ _ e)
    · exact qi_newarr (atype := .int) (tg := 0) (by decide) (fun _ => rfl) (fun _ _ h => h) qi_arr.1 rfl (by decide) hd h2 rfl h3 h4 h5 h6 h7 h8 (kk _ _ _ _ _ _ e)
  · cases e
theorem qi_s_new {d mc ms : Nat} {X : qX} {b : ByteArray} {nL : Nat} {qt : List qM} {C : qC} {n pc : Nat} {ls : pL} {st : List pV} {I If : qI} {cs sl : Nat} {k : Nat → pL → List pV → qI → Nat → Nat → Option qI} {j : Nat} (hX : qi_ctxB qt X = true) (hd : decode b pc = .ok (.new j, n)) (e : qi_step X qt C mc ms (.new j) n pc ls st I cs sl k = some If) (kk : ∀ pc' ls' st' I' cs' sl', k pc' ls' st' I' cs' sl' = some If → qi_G d X.1 b nL mc ms pc' ls' st' I' cs' sl' If) : qi_G d X.1 b nL mc ms pc ls st I cs sl If := by
  unfold qi_step at e
  dsimp only at e
  split at e
  · rename_i qq hj
    have e9 := qi_if_some e
    clear e
    obtain ⟨hn, e⟩ := e9
    simp only [Bool.and_eq_true] at hn
    obtain ⟨h1, h2, h4, h5, h6, h7, h8, h10⟩ := hn
    have h1 := Nat.eq_of_beq_eq_true h1
    subst h1
    have h2 : qq.1 < 12 := by simpa [Nat.blt_eq] using h2
    have h4 := Nat.le_of_ble_eq_true h4
    have h5 := Nat.le_of_ble_eq_true h5
    have hXf := hX
    unfold qi_ctxB at hXf
    rw [Bool.and_eq_true, Bool.and_eq_true] at hXf
    have g1 := List.all_eq_true.mp hXf.2.1 _ (px_find_mem hj)
    dsimp only at g1
    split at g1
    · cases g1
    · rename_i cr hcr
      rw [Bool.and_eq_true, Bool.and_eq_true] at g1
      have hnew : qi_new qq.1 = (qq.1 + 10, cr.2.2, (List.range cr.2.2).map fun k => if (cr.2.1 k).2.2.1 = "I" ∨ (cr.2.1 k).2.2.1 = "Z" then some (.inl 0) else none) := by
        unfold qi_new
        rw [hcr]
      have hdef := List.all_eq_true.mp qi_def_ok qq.1 (List.mem_range.mpr h2)
      unfold qi_def at hdef
      rw [hcr] at hdef
      dsimp only at hdef
      obtain ⟨hnm, ty0, hty⟩ := px_cl_ty hcr
      intro p l e0 s m args below meth c D D3 ad A H locs lsA ad0 n0 hF hn0 h0 hP hD hS hh
      obtain ⟨hx, hb, hml, hr, hown, hts, hlocks, hK, hNN, hin, hA⟩ := id hF
      have hlen : (qi_new qq.1).2.1 = cr.2.2 := by rw [hnew]
      have hfs : ∀ j, j < cr.2.2 → defaultValue (ty0 j) = vp_V ((qi_new qq.1).2.2.map (qi_fv ad)) j := fun j hj9 => by
        have k1 := of_decide_eq_true (List.all_eq_true.mp hdef j (List.mem_range.mpr hj9))
        rw [hty j hj9] at k1
        have k2 := Option.some.inj k1
        rw [k2, hnew]
        unfold vp_V
        rw [List.getD_eq_getElem?_getD, List.getElem?_map, List.getElem?_map, List.getElem?_range hj9]
        by_cases hc : (cr.2.1 j).2.2.1 = "I" ∨ (cr.2.1 j).2.2.1 = "Z"
        · rw [if_pos hc]
          show Value.int 0 = qi_fv ad (if _ then _ else _)
          rw [if_pos hc]
          rfl
        · rw [if_neg hc]
          show Value.null = qi_fv ad (if _ then _ else _)
          rw [if_neg hc]
          rfl
      rw [hlen] at h5 e
      refine va_new (fs := (qi_new qq.1).2.2.map (qi_fv ad)) hx hb hts (px_cl_in hcr) ty0 hty hown (hts _ (px_TB_of (px_at_mem g1.1) rfl)) (hts _ (px_TB_of (px_at_mem g1.2.1) rfl)) (hts _ (px_TB_of (px_at_mem g1.2.2) rfl)) hK hP hD hS hA hcr hfs h4 h5 hd (fun q H1 hP1 hD1 hS1 => ?_)
      have hent : qi_ent D3 ad (qi_new qq.1) = .inr (qq.1, (qi_new qq.1).2.2.map (qi_fv ad)) := by
        unfold qi_ent
        have k3 : (qi_new qq.1).1 = qq.1 + 10 := by rw [hnew]
        have hb4 : Nat.blt (qi_new qq.1).1 4 = false := by
          cases hq : Nat.blt (qi_new qq.1).1 4 with
          | false => rfl
          | true =>
            have := (Nat.blt_eq).mp hq
            omega
        rw [hb4, k3]
        rfl
      have hup : ∀ k, k < I.length → qi_up ad I.length q k = ad k := fun k hk => qi_up_lt hk
      have hmore := qi_more (D3 := D3) (ad := ad) (I := I) (e := qi_new qq.1) (q := q) h6 h10
      rw [hent] at hmore
      rw [← hmore] at hP1 hD1
      have h9 := kk _ _ _ _ _ _ e p l e0 s m args below meth c D D3 (qi_up ad I.length q) A H1 locs lsA ad0 n0 hF (by rw [List.length_append]; omega) (fun k hk9 => (hup k (by omega)).trans (h0 k hk9)) hP1 hD1 hS1 (qi_has_eq hup h7 hh)
      rw [List.map_cons, qi_st_eq hup h8] at h9
      have h8 : pv (qi_up ad I.length q) (.inr (.inl I.length)) = .ref q := by
        show Value.ref (qi_up ad I.length q I.length) = _
        rw [qi_up_self]
      rw [h8] at h9
      exact h9
  · cases e
/-- a constructor's contract: the cells I become If -/
def qi_Con (d : Nat) (qt : List qM) (cid : Nat) (as : List pV) (I If : qI) : Prop := match px_nth qt cid with
  | none => False
  | some (y, b, nL, _, mc, ms) => ∀ (l : Launch) (D : va_G) (D3 : Nat → ClassId) (ad : Nat → Nat) (sz : Nat),
    Met l y (.code y b nL none :: px_TB) (qi_rm d mc ms) (va_Pc (as.map (pv ad)) (fun U => U.heap.size = sz ∧ va_P D px_cl (qi_ws D3 ad I) U.heap ∧ va_K D px_cl (px_tys D3) U ∧ (∀ w ∈ px_TN, va_Nw w U) ∧ va_D (fun _ => True) (qi_ws D3 ad I))) (qi_Q D D3 ad I.length (va_A (qi_ws D3 ad I) sz) If) mc ms (va_A (qi_ws D3 ad I) sz)
def qi_Or (d : Nat) (qt : List qM) (C : qC) : Prop := ∀ cid as I If, C cid as I = some If → qi_Con d qt cid as I If
def qi_Qt (qt : List qM) : Prop := ∀ cid r, px_nth qt cid = some r → Jvm.Cond.code r.1 r.2.1 r.2.2.1 none ∈ px_TB ∧ Jvm.Cond.instanceMethod r.1 ∈ px_TB ∧ Jvm.Cond.initialized r.1.cls ∈ px_TB ∧ r.1.name = "<init>" ∧ (r.1.cls ≠ "java/lang/invoke/MethodHandle" ∧ r.1.cls ≠ "java/lang/invoke/VarHandle" ∧ (parseMethodDescriptor r.1.desc).map (fun d => d.parameters.length) = some r.2.2.2.1) ∧ plainName r.1.cls = true ∧ r.2.2.1 ≤ 20
theorem qi_blind {D : va_G} {D3 : Nat → ClassId} {ad : Nat → Nat} {sz : Nat} {I : qI} {a : List pV} : FrameBlind (va_Pc (a.map (pv ad)) (fun U => U.heap.size = sz ∧ va_P D px_cl (qi_ws D3 ad I) U.heap ∧ va_K D px_cl (px_tys D3) U ∧ (∀ w ∈ px_TN, va_Nw w U) ∧ va_D (fun _ => True) (qi_ws D3 ad I))) := fun a U g mk q => by
  obtain ⟨q0, q1, qP, qK, qN, qD⟩ := q
  exact ⟨q0, q1, qP, va_K.moved (u := U) (U := U.calling g mk a) (Vm.Alike.refl U.vm) qK, px_Nw_same (u := U) (U := U.calling g mk a) qN rfl, qD⟩
theorem qi_oinit : Jvm.Cond.code objectInit ⟨#[0xb1]⟩ 1 none ∈ px_TB := px_TB_of (List.mem_of_getElem? (i := 214) rfl) rfl
theorem qi_s_invokespecial {d mc ms : Nat} {X : qX} {b : ByteArray} {nL : Nat} {qt : List qM} {C : qC} {n pc : Nat} {ls : pL} {st : List pV} {I If : qI} {cs sl : Nat} {k : Nat → pL → List pV → qI → Nat → Nat → Option qI} {j : Nat} (hqt : qi_Qt qt) (hOr : qi_Or d qt C) (hX : qi_ctxB qt X = true) (hd : decode b pc = .ok (.invokespecial j, n)) (e : qi_step X qt C mc ms (.invokespecial j) n pc ls st I cs sl k = some If) (kk : ∀ pc' ls' st' I' cs' sl', k pc' ls' st' I' cs' sl' = some If → qi_G (d + 1) X.1 b nL mc ms pc' ls' st' I' cs' sl' If) : qi_G (d + 1) X.1 b nL mc ms pc ls st I cs sl If := by
  have e9 := qi_if_some e
  clear e
  obtain ⟨hn, e⟩ := e9
  have hn := Nat.eq_of_beq_eq_true hn
  subst hn
  have hXf := hX
  unfold qi_ctxB at hXf
  rw [Bool.and_eq_true, Bool.and_eq_true, Bool.and_eq_true] at hXf
  split at e
  · rename_i qq hj
    have g1 := List.all_eq_true.mp hXf.2.2.1 _ (px_find_mem hj)
    split at e
    · rename_i a r
      have e9 := qi_if_some e
      clear e
      obtain ⟨hlow, e⟩ := e9
      intro p l e0 s m args below meth c D D3 ad A H locs lsA ad0 n0 hF hn0 h0 hP hD hS hh
      obtain ⟨hx, hb, hml, hr, hown, hts, hlocks, hK, hNN, hin, hA⟩ := id hF
      have hro := lv_room (m := m) (pc := pc) (ls := lsA) (rest := List.map (pv ad) (Sum.inr (Sum.inl a) :: r)) (px_low_some (ad := ad) hlow)
      refine W.objInit hx hb hown (hts _ (px_TB_of (px_at_mem g1) rfl)) (hts _ qi_arr.2.2.2.2) (hts _ qi_oinit) rfl (by rw [hml]; exact hh.1) rfl hd (Nat.le_add_left 1 d) ?_ (kk _ _ _ _ _ _ e p l e0 s m args below meth c D D3 ad A H locs lsA ad0 n0 hF hn0 h0 hP hD hS hh)
      have : (qi_rm (d + 1) mc ms).locals = 40 * (d + 1) := rfl
      rw [this]
      omega
    · cases e
  · split at e
    · cases e
    · rename_i qq hj
      split at e
      · cases e
      · rename_i y b2 nL2 np mc' ms' hid
        split at e
        · rename_i as b0 r hp
          have e9 := qi_if_some e
          clear e
          obtain ⟨hn, e⟩ := e9
          simp only [Bool.and_eq_true] at hn
          obtain ⟨hlow, hc1, hs1, hcl, hcr⟩ := hn
          have hc1 := Nat.le_of_ble_eq_true hc1
          have hs1 := Nat.le_of_ble_eq_true hs1
          split at e
          · cases e
          · rename_i I1 hC
            have e9 := qi_if_some e
            clear e
            obtain ⟨hle, e⟩ := e9
            have hle := Nat.le_of_ble_eq_true hle
            obtain ⟨hst, hlen⟩ := px_popn_some hp
            subst hst
            have g1 := List.all_eq_true.mp hXf.2.2.2 _ (px_find_mem hj)
            unfold qi_cB at g1
            rw [hid] at g1
            dsimp only at g1
            rw [Bool.or_eq_true] at g1
            obtain ⟨hcode, hinst, hini, hname, hy, hpl, h20⟩ := hqt _ _ hid
            have hCon := hOr _ _ _ _ hC
            unfold qi_Con at hCon
            rw [hid] at hCon
            intro p l e0 s m args below meth c D D3 ad A H locs lsA ad0 n0 hF hn0 h0 hP hD hS hh
            obtain ⟨hx, hb, hml, hr, hown, hts, hlocks, hK, hNN, hin, hA⟩ := id hF
            have hM := hCon l D D3 ad H.size
            have hAA : ∀ q, va_A (qi_ws D3 ad I) H.size q → A q := fun q hq => by
              rcases hq with ⟨k, e9, hk⟩ | hq
              · exact hD.2 k (q, e9) hk
              · exact hA q (Nat.le_trans hS.1 hq)
            have hroom : (qi_rm d mc' ms').frames + 1 ≤ (qi_rm (d + 1) mc ms).frames ∧ 8 + (nL2 + 11) + (qi_rm d mc' ms').locals ≤ (qi_rm (d + 1) mc ms).locals := ⟨Nat.le_refl _, by show 8 + (nL2 + 11) + 40 * d ≤ 40 * (d + 1); dsimp only at h20; omega⟩
            have hp9 : PreS s H (va_Pc ((Sum.inr (Sum.inl b0) :: as : List pV).map (pv ad)) (fun U => U.heap.size = H.size ∧ va_P D px_cl (qi_ws D3 ad I) U.heap ∧ va_K D px_cl (px_tys D3) U ∧ (∀ w ∈ px_TN, va_Nw w U) ∧ va_D (fun _ => True) (qi_ws D3 ad I))) (.ref (ad b0) :: as.map (pv ad)) := ⟨qi_blind, fun U hU hW => ⟨rfl, by rw [hU], by rw [hU]; exact hP, va_K.moved hW.alike hK, px_Nw_warm hNN hW, hD.weaken (fun _ _ _ _ => trivial)⟩⟩
            have hst9 : (F0 m pc lsA ((as.reverse ++ .inr (.inl b0) :: r).map (pv ad))).stack = (as.map (pv ad)).reverse ++ .ref (ad b0) :: r.map (pv ad) := by
              show (as.reverse ++ .inr (.inl b0) :: r).map (pv ad) = _
              rw [List.map_append, List.map_reverse]
              rfl
            have hrun : va_Run p l e0 (qi_rm (d + 1) mc ms) s m args below meth c H locs cs sl mc' ms' (F0 m pc lsA ((as.reverse ++ .inr (.inl b0) :: r).map (pv ad))) (r.map (pv ad)) (qi_Q D D3 ad I.length (va_A (qi_ws D3 ad I) H.size) I1 (Value.ref (ad b0) :: as.map (pv ad)).toArray) (va_A (qi_ws D3 ad I) H.size) := by
              rcases g1 with g1 | g1
              · exact va_runI ⟨hx, hb, hml, hown, hts⟩ hM ⟨callB_of np hts (px_good_ws hcode) rfl rfl rfl (hts _ hini) (hts _ (px_TB_of (px_at_mem g1) rfl)) hy hroom, hname, hts _ hinst⟩ hp9 rfl (by rw [List.length_map]; exact hlen) hh.1 hst9 (lv_room (px_low_some hlow)) hd ⟨hc1, hs1⟩
              · exact va_runIN ⟨hx, hb, hml, hown, hts⟩ hM ⟨va_cnB np hts (px_good_ws hcode) rfl rfl rfl (hNN _ (px_TN_of (px_at_mem g1) rfl)) (hts _ hini) hy hroom, hname, hts _ hinst⟩ hp9 rfl (by rw [List.length_map]; exact hlen) hh.1 hst9 (lv_room (px_low_some hlow)) hd ⟨hc1, hs1⟩
            refine va_callv (a := (Value.ref (ad b0) :: as.map (pv ad)).toArray) hrun hS (fun q _ h => hAA q h) hAA (fun ad' t H1 locs1 ht hvm hp1 hB hz hk hS1 => ?_)
            obtain ⟨hB1, -, hB3⟩ := hB
            rw [ht] at hB1
            have h9 := kk _ _ _ _ _ _ e p l e0 s m args below meth c D D3 ad' A H1 locs1 lsA ad0 n0 hF (Nat.le_trans hn0 hle) (fun k hk9 => (hp1 k (by omega)).trans (h0 k hk9)) hB1 (hB3.weaken (fun _ q _ h => hAA q.1 h)) hS1 (qi_has_eq hp1 hcl hh)
            rw [qi_st_eq hp1 hcr] at h9
            exact h9
        · cases e
theorem qi_s_return_ {d mc ms : Nat} {X : qX} {b : ByteArray} {nL : Nat} {qt : List qM} {C : qC} {n pc : Nat} {ls : pL} {st : List pV} {I If : qI} {cs sl : Nat} {k : Nat → pL → List pV → qI → Nat → Nat → Option qI} (hX : qi_ctxB qt X = true) (hd : decode b pc = .ok (.return_, n)) (e : qi_step X qt C mc ms (.return_) n pc ls st I cs sl k = some If) (kk : ∀ pc' ls' st' I' cs' sl', k pc' ls' st' I' cs' sl' = some If → qi_G d X.1 b nL mc ms pc' ls' st' I' cs' sl' If) : qi_G d X.1 b nL mc ms pc ls st I cs sl If := by
  have e9 := qi_if_some e
  clear e
  obtain ⟨hn, e⟩ := e9
  have hn := Nat.eq_of_beq_eq_true hn
  subst hn
  split at e
  · have e9 := qi_if_some e
    clear e
    obtain ⟨hn, e⟩ := e9
    rw [Bool.and_eq_true] at hn
    cases e
    intro p l e0 s m args below meth c D D3 ad A H locs lsA ad0 n0 hF hn0 h0 hP hD hS hh
    obtain ⟨hx, hb, hml, hr, hown, hts, hlocks, hK, hNN, hin, hA⟩ := id hF
    refine W.widen (k := mc) (n := ms) (Nat.le_of_ble_eq_true hn.1) (Nat.le_of_ble_eq_true hn.2) ?_
    exact W.vret hx hb hr (fun t ht hW => ⟨⟨ad, rfl, h0, by rw [ht]; exact hP, va_K.moved hW.alike hK, hD⟩, hS.F ht⟩) hS.2.2 hd
  · cases e
theorem qi_step_ok {d mc ms : Nat} {X : qX} {b : ByteArray} {nL : Nat} {qt : List qM} {C : qC} {i : Instr} {n pc : Nat} {ls : pL} {st : List pV} {I If : qI} {cs sl : Nat} {k : Nat → pL → List pV → qI → Nat → Nat → Option qI} (hqt : qi_Qt qt) (hOr : qi_Or d qt C) (hX : qi_ctxB qt X = true) (hd : decode b pc = .ok (i, n)) (e : qi_step X qt C mc ms i n pc ls st I cs sl k = some If) (kk : ∀ pc' ls' st' I' cs' sl', k pc' ls' st' I' cs' sl' = some If → qi_G (d + 1) X.1 b nL mc ms pc' ls' st' I' cs' sl' If) : qi_G (d + 1) X.1 b nL mc ms pc ls st I cs sl If := by
  cases i with
  | iconst v => exact qi_s_iconst hX hd e kk
  | bipush v => exact qi_s_bipush hX hd e kk
  | sipush v => exact qi_s_sipush hX hd e kk
  | aload_n j => exact qi_s_aload_n hX hd e kk
  | dup => exact qi_s_dup hX hd e kk
  | getfield j => exact qi_s_getfield hX hd e kk
  | putfield j => exact qi_s_putfield hX hd e kk
  | newarray t => exact qi_s_newarray hX hd e kk
  | new j => exact qi_s_new hX hd e kk
  | invokespecial j => exact qi_s_invokespecial hqt hOr hX hd e kk
  | return_ => exact qi_s_return_ hX hd e kk
  | _ => cases e
theorem qi_run_ok {d mc ms : Nat} {X : qX} {b : ByteArray} {nL : Nat} {qt : List qM} {C : qC} {code : pCode} {If : qI} (hqt : qi_Qt qt) (hOr : qi_Or d qt C) (hX : qi_ctxB qt X = true) (hc : px_code b code = true) : ∀ (f pc : Nat) (ls : pL) (st : List pV) (I : qI) (cs sl : Nat), qi_run X qt C mc ms code f pc ls st I cs sl = some If → qi_G (d + 1) X.1 b nL mc ms pc ls st I cs sl If := by
  intro f
  induction f with
  | zero =>
    intro pc ls st I cs sl e
    cases e
  | succ f ih =>
    intro pc ls st I cs sl e
    unfold qi_run at e
    split at e
    · cases e
    · rename_i r hr
      have hd : decode b pc = .ok (r.1, r.2) := of_decide_eq_true (List.all_eq_true.mp hc (pc, r) (px_find_mem hr))
      have hk : ∀ pc' ls' st' I' cs' sl', qi_run X qt C mc ms code f pc' ls' st' I' cs' sl' = some If → qi_G (d + 1) X.1 b nL mc ms pc' ls' st' I' cs' sl' If := fun pc' ls' st' I' cs' sl' e' => ih pc' ls' st' I' cs' sl' e'
      exact qi_step_ok hqt hOr hX hd e hk
theorem qi_con {d cid : Nat} {qt : List qM} {y : MethodName} {b : ByteArray} {nL np mc ms : Nat} {as : List pV} {I If : qI} (hqt : qi_Qt qt) (hid : px_nth qt cid = some (y, b, nL, np, mc, ms)) (hL : as.length ≤ nL) (hlong : as.all (fun v => Nat.beq (px_cat v) 1) = true)
    (hG : qi_G d y.cls b nL mc ms 0 (as.map some ++ List.replicate (nL - as.length) none) [] I 0 0 If) : qi_Con d qt cid as I If := by
  unfold qi_Con
  rw [hid]
  intro l D D3 ad sz
  obtain ⟨hcode, hinst, hini, hname, hy, hpl, h20⟩ := hqt _ _ hid
  refine Met.ofW (cc := b) (maxL := nL) (ret := none) hpl rfl ?_
  intro p e s m args below meth c s₁ B hml hv
  obtain ⟨rfl, hsz, hP, hK, hN, hD0⟩ := hv
  have hts := atoms_spec (ws := Jvm.Cond.code y b nL none :: px_TB) B.pre
  have hsl := px_lgsl (ad := ad) hlong
  have hll : (lg_sl (as.map (pv ad))).length ≤ nL := by rw [hsl, List.length_map]; exact hL
  have hl := lv_entry (as.map (pv ad)) (n := nL) hll
  rw [lg_entry_eq]
  have hown : s.vm.findClass y.cls = some m.cls := findClass_of_methodNamed B.named
  have hin : meth.name = "<init>" := (name_of_methodNamed B.named B.method).1.trans hname
  subst hsz
  have hD := hD0.self (sz := s.heap.size)
  refine hG p l e s m _ below meth c D D3 ad (va_A (qi_ws D3 ad I) s.heap.size) s.heap [] _ ad I.length ⟨B.exec, B.bytes, hml, B.returns, hown, fun w hw => hts w (List.mem_cons_of_mem _ hw), B.notSynchronized, hK, hN, hin, fun q h => Or.inr h⟩ (Nat.le_refl _) (fun _ _ => rfl) hP hD va_S.rf ⟨hl.1, hl.2.1, by simp; omega, fun i v hv => ?_⟩
  rw [px_nth_eq] at hv
  rw [hsl, List.getElem?_toArray]
  by_cases hi2 : i < as.length
  · rw [List.getElem?_append_left (by simpa using hi2), List.getElem?_map] at hv
    rw [List.getElem?_append_left (by simpa using hi2), List.getElem?_map]
    cases hq : as[i]? with
    | none => rw [hq] at hv; cases hv
    | some w =>
      rw [hq] at hv
      cases hv
      rfl
  · rw [List.getElem?_append_right (by simpa using hi2)] at hv
    have := List.mem_of_getElem? hv
    rw [List.mem_replicate] at this
    cases this.2
