/-! invokestatic; every instruction; blocks; contracts -/
theorem px_mathw2 : (px_at 677 (.code Lib.Math.max.name Lib.Math.max.code 2 (some .int)) && (px_at 662 (.code Lib.Math.min.name Lib.Math.min.code 2 (some .int)) && (px_at 1881 (.code Lib.Math.abs.name Lib.Math.abs.code 1 (some .int)) && (px_at 2057 (.code Lib.MathLoose.max_long.x Lib.MathLoose.max_long.code 4 (some .long)) && px_at 2054 (.code Lib.MathLoose.min_long.x Lib.MathLoose.min_long.code 4 (some .long)))))) = true := by decide +kernel
theorem px_mf : (Jvm.Cond.initialized "java/lang/Math" ∈ px_TB ∧ Jvm.Cond.static Lib.Math.max.name ∈ px_TB ∧ Jvm.Cond.static Lib.Math.min.name ∈ px_TB ∧ Jvm.Cond.static Lib.Math.abs.name ∈ px_TB ∧ Jvm.Cond.static Lib.MathLoose.max_long.x ∈ px_TB ∧ Jvm.Cond.static Lib.MathLoose.min_long.x ∈ px_TB) ∧
    Jvm.Cond.code Lib.Math.max.name Lib.Math.max.code 2 (some .int) ∈ px_TB ∧ Jvm.Cond.code Lib.Math.min.name Lib.Math.min.code 2 (some .int) ∈ px_TB ∧ Jvm.Cond.code Lib.Math.abs.name Lib.Math.abs.code 1 (some .int) ∈ px_TB ∧ Jvm.Cond.code Lib.MathLoose.max_long.x Lib.MathLoose.max_long.code 4 (some .long) ∈ px_TB ∧ Jvm.Cond.code Lib.MathLoose.min_long.x Lib.MathLoose.min_long.code 4 (some .long) ∈ px_TB := by
  have h1 := px_mathw
  have h2 := px_mathw2
  simp only [Bool.and_eq_true, decide_eq_true_eq] at h1
  simp only [Bool.and_eq_true] at h2
  exact ⟨⟨px_TB_of h1.1 rfl, px_TB_of h1.2.1 rfl, px_TB_of h1.2.2.1 rfl, px_TB_of h1.2.2.2.1 rfl, px_TB_of h1.2.2.2.2.1 rfl, px_TB_of h1.2.2.2.2.2 rfl⟩, px_TB_of (px_at_mem h2.1) rfl, px_TB_of (px_at_mem h2.2.1) rfl, px_TB_of (px_at_mem h2.2.2.1) rfl, px_TB_of (px_at_mem h2.2.2.2.1) rfl, px_TB_of (px_at_mem h2.2.2.2.2) rfl⟩
theorem px_rl {d : Nat} {ad : Nat → Nat} {r : List pV} {n : Nat} (h : px_low r = true) (hn : n ≤ 32) : ((r.map (pv ad)).map fun v => v.category).sum + n ≤ (px_rm (d + 1)).locals := by
  have h1 := px_low_some (ad := ad) h
  show _ ≤ 40 * (d + 1)
  omega
theorem px_s_invokestatic {d : Nat} {M : pM} {C : pC} {n pc : Nat} {ls : pL} {st : List pV} {h : pH} {q : Int32 × pH} {k : pK} {j : Nat} (hOr : px_Or d C) (hM : px_ctxB M.1 = true) (hd : decode M.2.1 pc = .ok (.invokestatic j, n)) (e : px_step M.1 M.2.2.2 C (.invokestatic j) n pc ls st h k = some q) (kk : ∀ pc' ls' st' h', k pc' ls' st' h' = some q → px_G (d + 1) M pc' ls' st' h' q) : px_G (d + 1) M pc ls st h q := by
  have hf := px_mf
  have e9 := px_if_some e
  clear e
  obtain ⟨hn, e⟩ := e9
  have hn := Nat.eq_of_beq_eq_true hn
  subst hn
  split at e
  · cases e
  · rename_i qq hj
    split at e
    · rename_i hb
      obtain ⟨y, b, nLc, rtc, np, ci, as, r, x, h1, hid, hlen, hlow, ek, hor⟩ := px_call_some e
      rcases hor with ⟨-, rfl, hC⟩ | ⟨hs, -⟩
      · obtain ⟨r9, hr9, hl⟩ := px_ctx_m hM hj hb
        rw [hid] at hr9
        cases hr9
        intro p l e0 s m args below meth c D D3 ad H locs lsA hF hP hS hh
        exact px_invS (id := qq.1) (q := (x, h1)) hid hl (hOr _ _ _ _ hC) hF hP hS hh.1 hd hlen hlow (fun H1 locs1 hP1 hS1 => by
          have h8 := kk _ _ _ _ ek p l e0 s m args below meth c D D3 ad H1 locs1 lsA hF hP1 hS1 hh
          rw [px_push_map] at h8
          exact h8)
      · cases hs
    · rename_i hb
      split at e
      · rename_i hq1
        have e9 := px_i2_some e
        clear e
        obtain ⟨x, y, r, rfl, e⟩ := e9
        have e9 := px_if_some e
        clear e
        obtain ⟨hlow, e⟩ := e9
        have hlk := px_ctx_i hM hj hb
        rw [hq1] at hlk
        intro p l e0 s m args below meth c D D3 ad H locs lsA hF hP hS hh
        obtain ⟨hx, hbb, hml, hr, hown, hts, hlocks, hK, hN, hi⟩ := id hF
        exact va_mmax hx hbb (hml.trans hh.1.symm) hown (hts _ hlk) (hts _ hf.1.2.1) (hts _ hf.1.1) (hts _ hf.2.1) (Nat.le_add_left 1 d) (px_rl hlow (by decide)) (Nat.le_refl _) (Nat.le_refl _) hd (kk _ _ _ _ e p l e0 s m args below meth c D D3 ad H locs lsA hF hP hS hh)
      · rename_i hq1
        have e9 := px_i2_some e
        clear e
        obtain ⟨x, y, r, rfl, e⟩ := e9
        have e9 := px_if_some e
        clear e
        obtain ⟨hlow, e⟩ := e9
        have hlk := px_ctx_i hM hj hb
        rw [hq1] at hlk
        intro p l e0 s m args below meth c D D3 ad H locs lsA hF hP hS hh
        obtain ⟨hx, hbb, hml, hr, hown, hts, hlocks, hK, hN, hi⟩ := id hF
        exact va_mmin hx hbb (hml.trans hh.1.symm) hown (hts _ hlk) (hts _ hf.1.2.2.1) (hts _ hf.1.1) (hts _ hf.2.2.1) (Nat.le_add_left 1 d) (px_rl hlow (by decide)) (Nat.le_refl _) (Nat.le_refl _) hd (kk _ _ _ _ e p l e0 s m args below meth c D D3 ad H locs lsA hF hP hS hh)
      · rename_i hq1
        have e9 := px_i1_some e
        clear e
        obtain ⟨x, r, rfl, e⟩ := e9
        have e9 := px_if_some e
        clear e
        obtain ⟨hlow, e⟩ := e9
        have hlk := px_ctx_i hM hj hb
        rw [hq1] at hlk
        intro p l e0 s m args below meth c D D3 ad H locs lsA hF hP hS hh
        obtain ⟨hx, hbb, hml, hr, hown, hts, hlocks, hK, hN, hi⟩ := id hF
        exact va_mabs hx hbb (hml.trans hh.1.symm) hown (hts _ hlk) (hts _ hf.1.2.2.2.1) (hts _ hf.1.1) (hts _ hf.2.2.2.1) (Nat.le_add_left 1 d) (px_rl hlow (by decide)) (Nat.le_refl _) (Nat.le_refl _) hd (kk _ _ _ _ e p l e0 s m args below meth c D D3 ad H locs lsA hF hP hS hh)
      · rename_i hq1
        have e9 := px_l2_some e
        clear e
        obtain ⟨x, y, r, rfl, e⟩ := e9
        have e9 := px_if_some e
        clear e
        obtain ⟨hlow, e⟩ := e9
        have hlk := px_ctx_i hM hj hb
        rw [hq1] at hlk
        intro p l e0 s m args below meth c D D3 ad H locs lsA hF hP hS hh
        obtain ⟨hx, hbb, hml, hr, hown, hts, hlocks, hK, hN, hi⟩ := id hF
        exact va_mmax_long hx hbb (hml.trans hh.1.symm) hown (hts _ hlk) (hts _ hf.1.2.2.2.2.1) (hts _ hf.1.1) (hts _ hf.2.2.2.2.1) (Nat.le_add_left 1 d) (px_rl hlow (by decide)) (Nat.le_refl _) (Nat.le_refl _) hd (kk _ _ _ _ e p l e0 s m args below meth c D D3 ad H locs lsA hF hP hS hh)
      · rename_i hq1
        have e9 := px_l2_some e
        clear e
        obtain ⟨x, y, r, rfl, e⟩ := e9
        have e9 := px_if_some e
        clear e
        obtain ⟨hlow, e⟩ := e9
        have hlk := px_ctx_i hM hj hb
        rw [hq1] at hlk
        intro p l e0 s m args below meth c D D3 ad H locs lsA hF hP hS hh
        obtain ⟨hx, hbb, hml, hr, hown, hts, hlocks, hK, hN, hi⟩ := id hF
        exact va_mmin_long hx hbb (hml.trans hh.1.symm) hown (hts _ hlk) (hts _ hf.1.2.2.2.2.2) (hts _ hf.1.1) (hts _ hf.2.2.2.2.2) (Nat.le_add_left 1 d) (px_rl hlow (by decide)) (Nat.le_refl _) (Nat.le_refl _) hd (kk _ _ _ _ e p l e0 s m args below meth c D D3 ad H locs lsA hF hP hS hh)
      · cases e
theorem px_step_ok {d : Nat} {M : pM} {C : pC} {i : Instr} {n pc : Nat} {ls : pL} {st : List pV} {h : pH} {q : Int32 × pH} {k : pK} (hOr : px_Or d C) (hM : px_ctxB M.1 = true) (hd : decode M.2.1 pc = .ok (i, n)) (e : px_step M.1 M.2.2.2 C i n pc ls st h k = some q) (kk : ∀ pc' ls' st' h', k pc' ls' st' h' = some q → px_G (d + 1) M pc' ls' st' h' q) : px_G (d + 1) M pc ls st h q := by
  cases i with
  | iconst v => exact px_s_iconst hd e kk
  | bipush v => exact px_s_bipush hd e kk
  | sipush v => exact px_s_sipush hd e kk
  | lconst v => exact px_s_lconst hd e kk
  | iload j => exact px_s_iload hd e kk
  | iload_n j => exact px_s_iload_n hd e kk
  | aload j => exact px_s_aload hd e kk
  | aload_n j => exact px_s_aload_n hd e kk
  | lload j => exact px_s_lload hd e kk
  | istore j => exact px_s_istore hd e kk
  | istore_n j => exact px_s_istore_n hd e kk
  | lstore j => exact px_s_lstore hd e kk
  | iinc j v => exact px_s_iinc hd e kk
  | iadd => exact px_s_iadd hd e kk
  | isub => exact px_s_isub hd e kk
  | imul => exact px_s_imul hd e kk
  | iand => exact px_s_iand hd e kk
  | ior => exact px_s_ior hd e kk
  | ixor => exact px_s_ixor hd e kk
  | idiv => exact px_s_idiv hd e kk
  | irem => exact px_s_irem hd e kk
  | ishl => exact px_s_ishl hd e kk
  | ishr => exact px_s_ishr hd e kk
  | iushr => exact px_s_iushr hd e kk
  | ineg => exact px_s_ineg hd e kk
  | i2b => exact px_s_i2b hd e kk
  | i2s => exact px_s_i2s hd e kk
  | i2c => exact px_s_i2c hd e kk
  | i2l => exact px_s_i2l hd e kk
  | l2i => exact px_s_l2i hd e kk
  | ladd => exact px_s_ladd hd e kk
  | lsub => exact px_s_lsub hd e kk
  | lcmp => exact px_s_lcmp hd e kk
  | dup => exact px_s_dup hd e kk
  | pop => exact px_s_pop hd e kk
  | dup2 => exact px_s_dup2 hd e kk
  | dup_x1 => exact px_s_dup_x1 hd e kk
  | ifCond o off => exact px_s_ifCond hd e kk
  | if_icmp o off => exact px_s_if_icmp hd e kk
  | goto off => exact px_s_goto hd e kk
  | ldc j => exact px_s_ldc hM hd e kk
  | ldc_w j => exact px_s_ldc_w hM hd e kk
  | ldc2_w j => exact px_s_ldc2_w hM hd e kk
  | tableswitch d0 lo hi0 offs => exact px_s_tableswitch hM hd e kk
  | lookupswitch d0 ps => exact px_s_lookupswitch hM hd e kk
  | getfield j => exact px_s_getfield hM hd e kk
  | putfield j => exact px_s_putfield hM hd e kk
  | arraylength => exact px_s_arraylength hM hd e kk
  | iaload => exact px_s_iaload hM hd e kk
  | baload => exact px_s_baload hM hd e kk
  | caload => exact px_s_caload hM hd e kk
  | iastore => exact px_s_iastore hM hd e kk
  | bastore => exact px_s_bastore hM hd e kk
  | castore => exact px_s_castore hM hd e kk
  | ireturn => exact px_s_ireturn hM hd e kk
  | return_ => exact px_s_return_ hM hd e kk
  | invokestatic j => exact px_s_invokestatic hOr hM hd e kk
  | invokevirtual j => exact px_s_invokevirtual hOr hM hd e kk
  | _ => cases e
/-- the listing is what the bytes say -/
def px_code (b : ByteArray) (code : pCode) : Bool := code.all fun q => decide (decode b q.1 = .ok (q.2.1, q.2.2))
/-- where a block leads -/
def px_KK (l : List (Nat × (pL → List pV → pH → pR))) : pK := fun pc ls st h => match px_find l pc with
  | some f => f ls st h
  | none => none
def px_Kok (d : Nat) (M : pM) (r : Nat × (pL → List pV → pH → pR)) : Prop := ∀ ls st h q, r.2 ls st h = some q → px_G d M r.1 ls st h q
theorem px_blk_ok {d : Nat} {M : pM} {C : pC} {code : pCode} {ld : List Nat} {kl : List (Nat × (pL → List pV → pH → pR))} (hOr : px_Or d C) (hM : px_ctxB M.1 = true) (hc : px_code M.2.1 code = true) (hk : ∀ r ∈ kl, px_Kok (d + 1) M r) :
    ∀ (n pc : Nat) (ls : pL) (st : List pV) (h : pH) (q : Int32 × pH), px_blk M.1 M.2.2.2 C code ld (px_KK kl) n pc ls st h = some q → px_G (d + 1) M pc ls st h q := by
  intro n
  induction n with
  | zero =>
    intro pc ls st h q e
    cases e
  | succ n ih =>
    intro pc ls st h q e
    unfold px_blk at e
    split at e
    · cases e
    · rename_i r hr
      have hd := of_decide_eq_true (List.all_eq_true.mp hc _ (px_find_mem hr))
      refine px_step_ok hOr hM hd e (fun pc' ls' st' h' e' => ?_)
      split at e'
      · unfold px_KK at e'
        split at e'
        · rename_i f hf
          exact hk _ (px_find_mem hf) ls' st' h' q e'
        · cases e'
      · exact ih pc' ls' st' h' q e'
/-! the shape of what lives at a block's head -/
def px_gi (ls : pL) (i : Nat) : Int32 := match px_nth ls i with
  | some (some (.inl x)) => x
  | _ => 0
def px_gr (ls : pL) (i : Nat) : Nat := match px_nth ls i with
  | some (some (.inr (.inl a))) => a
  | _ => 0
def px_gl (ls : pL) (i : Nat) : Int64 := match px_nth ls i with
  | some (some (.inr (.inr x))) => x
  | _ => 0
def px_si (st : List pV) (i : Nat) : Int32 := match px_nth st i with
  | some (.inl x) => x
  | _ => 0
def px_sr (st : List pV) (i : Nat) : Nat := match px_nth st i with
  | some (.inr (.inl x)) => x
  | _ => 0
def px_sl (st : List pV) (i : Nat) : Int64 := match px_nth st i with
  | some (.inr (.inr x)) => x
  | _ => 0
/-- 0 anything, 1 an int, 2 a reference, 3 a long, 10 and more: that cell -/
def px_fv1 (t : Nat) (v : Option pV) : Bool := match t with
  | 0 => true
  | 1 => match v with
    | some (.inl _) => true
    | _ => false
  | 2 => match v with
    | some (.inr (.inl _)) => true
    | _ => false
  | 3 => match v with
    | some (.inr (.inr _)) => true
    | _ => false
  | t + 4 => match v with
    | some (.inr (.inl a)) => Nat.beq a (t + 4 - 10)
    | _ => false
def px_fit : List Nat → pL → Bool
  | [], [] => true
  | t :: ts, v :: ls => px_fv1 t v && px_fit ts ls
  | _, _ => false
def px_fits : List Nat → List pV → Bool
  | [], [] => true
  | t :: ts, v :: st => (!Nat.beq t 0 && px_fv1 t (some v)) && px_fits ts st
  | _, _ => false
def px_cv1 (t : Nat) (v : Option pV) : Option pV := match t with
  | 0 => none
  | _ => v
def px_can : List Nat → pL → pL
  | t :: ts, v :: ls => px_cv1 t v :: px_can ts ls
  | _, _ => []
theorem px_can_le {ts : List Nat} {ls : pL} (h : px_fit ts ls = true) : px_le (px_can ts ls) ls := by
  induction ts generalizing ls with
  | nil =>
    cases ls with
    | nil => exact ⟨rfl, fun _ _ h => h⟩
    | cons a l => cases h
  | cons t ts ih =>
    cases ls with
    | nil => cases h
    | cons v l =>
      unfold px_fit at h
      rw [Bool.and_eq_true] at h
      obtain ⟨h1, h2⟩ := ih h.2
      refine ⟨by simp [px_can, h1], fun i w hi => ?_⟩
      cases i with
      | zero =>
        have hi : px_cv1 t v = some w := Option.some.inj hi
        unfold px_cv1 at hi
        split at hi
        · cases hi
        · show some v = some (some w)
          rw [hi]
      | succ i => exact h2 i w hi
theorem px_Kok_of {d : Nat} {M : pM} {T : Nat} {ts ss : List Nat} {g : pL → List pV → pH → pR} (hg : ∀ ls st h q, px_fit ts ls = true → px_fits ss st = true → g ls st h = some q → px_G d M T (px_can ts ls) st h q) : px_Kok d M (T, fun ls st h => px_if (px_fit ts ls && px_fits ss st) (g ls st h)) := by
  intro ls st h q e
  obtain ⟨h1, e⟩ := px_if_some e
  rw [Bool.and_eq_true] at h1
  exact px_G_le (px_can_le h1.1) (hg ls st h q h1.1 h1.2 e)
theorem px_lgsl {ad : Nat → Nat} {as : List pV} (hlong : as.all (fun v => Nat.beq (px_cat v) 1) = true) : lg_sl (as.map (pv ad)) = as.map fun v => Slot.val (pv ad v) := by
  induction as with
  | nil => rfl
  | cons v l ih =>
    rw [List.all_cons, Bool.and_eq_true] at hlong
    have hc := px_cat_ok (ad := ad) hlong.1
    rw [List.map_cons, List.map_cons, ← ih hlong.2]
    match v, hc with
    | .inl x, _ => rfl
    | .inr (.inl x), _ => rfl
    | .inr (.inr x), hc => cases hc
/-- the contract out of the entry block -/
theorem px_con {d id : Nat} {y : MethodName} {X : pX} {b : ByteArray} {nL : Nat} {rt : Option FieldType} {s0 : Bool} {np ci : Nat} {as : List pV} {h : pH} {q : Int32 × pH} (hid : px_nth px_mt id = some (y, b, nL, rt, s0, np, ci)) (hX : X.1 = y.cls) (hL : as.length ≤ nL) (hlong : as.all (fun v => Nat.beq (px_cat v) 1) = true)
    (hG : px_G d (X, b, nL, rt) 0 (as.map some ++ List.replicate (nL - as.length) none) [] h q) : px_Con d id as h q := by
  unfold px_Con
  rw [hid]
  intro l D D3 ad sz hi
  obtain ⟨hcin, hini, hy, hpl, h20, -, -⟩ := px_mr_parts hid
  refine Met.ofW (cc := b) (maxL := nL) (ret := rt) hpl rfl ?_
  intro p e s m args below meth c s₁ B hml hv
  obtain ⟨rfl, hsz, hP, hK, hN⟩ := hv
  have hts := atoms_spec (ws := Jvm.Cond.code y b nL rt :: px_TB) B.pre
  have hsl := px_lgsl (ad := ad) hlong
  have hll : (lg_sl (as.map (pv ad))).length ≤ nL := by rw [hsl, List.length_map]; exact hL
  have hl := lv_entry (as.map (pv ad)) (n := nL) hll
  rw [lg_entry_eq]
  have hown : s.vm.findClass X.1 = some m.cls := by rw [hX]; exact findClass_of_methodNamed B.named
  subst hsz
  refine hG p l e s m _ below meth c D D3 ad s.heap [] _ ⟨B.exec, B.bytes, hml, B.returns, hown, fun w hw => hts w (List.mem_cons_of_mem _ hw), B.notSynchronized, hK, hN, hi⟩ hP va_S.rf ⟨hl.1, hl.2.1, by simp; omega, fun i v hv => ?_⟩
  rw [px_nth_eq] at hv
  rw [hsl, List.getElem?_toArray]
  by_cases hi2 : i < as.length
  · rw [List.getElem?_append_left (by simpa using hi2), List.getElem?_map] at hv
    rw [List.getElem?_append_left (by simpa using hi2), List.getElem?_map]
    cases hq : as[i]? with
    | none => rw [hq] at hv; cases hv
    | some w =>
      rw [hq] at hv
      cases hv
      rfl
  · rw [List.getElem?_append_right (by simpa using hi2)] at hv
    have := List.mem_of_getElem? hv
    rw [List.mem_replicate] at this
    cases this.2
/-! the callees that a method knows -/
def px_orc (l : List (Nat × (List pV → pH → pR))) : pC := fun id a h => match px_find l id with
  | some f => f a h
  | none => none
def px_Ook (d : Nat) (r : Nat × (List pV → pH → pR)) : Prop := ∀ a h q, r.2 a h = some q → px_Con d r.1 a h q
theorem px_orc_ok {d : Nat} {l : List (Nat × (List pV → pH → pR))} (h : ∀ r ∈ l, px_Ook d r) : px_Or d (px_orc l) := by
  intro id a h1 q e
  unfold px_orc at e
  split at e
  · rename_i f hf
    exact h _ (px_find_mem hf) a h1 q e
  · cases e
