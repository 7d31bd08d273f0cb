/-! Layer B: the row on both sides; a question's end -/
def B_sc (a k : Nat) : Bool := Nat.blt a 51 && !(B_p a k)
def B_sd (a k : Nat) : Bool := !(Nat.blt a 51) && !(B_p a k)
theorem B_fr.refl (p : Nat → Nat → Bool) (h : pH) : B_fr p h h := fun _ _ _ => rfl
theorem B_fr.trans {p : Nat → Nat → Bool} {h h' h'' : pH} (x : B_fr p h h') (y : B_fr p h' h'') : B_fr p h h'' := fun a k e => (y a k e).trans (x a k e)
theorem B_fr.mono {p q : Nat → Nat → Bool} {h h' : pH} (x : B_fr p h h') (m : ∀ a k, p a k = true → q a k = true) : B_fr q h h' := fun a k e => x a k (by
  cases hp : p a k with
  | false => rfl
  | true => rw [m a k hp] at e; cases e)
theorem B_fr.w {p : Nat → Nat → Bool} {h h' : pH} (x : B_fr p h h') {a k : Nat} {v : Int32} (e : p a k = true) : B_fr p h (px_w h' a k v) := fun b j q => by
  unfold px_w
  rw [if_neg (fun r => by rw [r.1, r.2, e] at q; cases q)]
  exact x b j q
theorem B_fr.sm_c {h h' : pH} (x : B_fr B_sc h h') : B_sm h h' := fun a k e => x a k (by unfold B_sc; rw [e]; simp)
theorem B_fr.sm_d {h h' : pH} (x : B_fr B_sd h h') : B_sm h h' := fun a k e => x a k (by unfold B_sd; rw [e]; simp)
theorem B_fr.row {p : Nat → Nat → Bool} {h h' : pH} (x : B_fr p h h') (a : Nat) (e : ∀ k, p a k = false) : h' a = h a := funext fun k => x a k (e k)
theorem B_sc_m {h h' : pH} (x : B_fr B_sc h h') {a k : Nat} (ha : 51 ≤ a) : h' a k = h a k := x a k (by
  unfold B_sc
  have : Nat.blt a 51 = false := by
    cases hq : Nat.blt a 51 with
    | false => rfl
    | true => have := (Nat.blt_eq).mp hq; omega
  rw [this]
  rfl)
theorem B_sd_c {h h' : pH} (x : B_fr B_sd h h') {a k : Nat} (ha : a < 51) : h' a k = h a k := x a k (by
  unfold B_sd
  have : Nat.blt a 51 = true := (Nat.blt_eq).mpr ha
  rw [this]
  rfl)
/-- the row is l -/
def B_rc (h : pH) (l : List Int32) : Prop := h 45 1 = nI l.length ∧ ∀ k, k < l.length → h 46 k = l.getD k 0
def B_rm (h : pH) (l : List Int32) : Prop := h 51 13 = nI l.length ∧ ∀ k, k < l.length → h 59 k = l.getD k 0
def B_frw (a k : Nat) : Bool := match a with
  | 45 => Nat.beq k 1
  | 46 => true
  | _ => false
def B_frm (a k : Nat) : Bool := match a with
  | 51 => Nat.beq k 13
  | 59 => true
  | _ => false
theorem B_getD_app (l : List Int32) (x : Int32) {k : Nat} (hk : k < (l ++ [x]).length) : (l ++ [x]).getD k 0 = if k = l.length then x else l.getD k 0 := by
  rw [List.length_append, List.length_singleton] at hk
  rw [List.getD_eq_getElem?_getD, List.getD_eq_getElem?_getD, List.getElem?_append]
  by_cases h : k = l.length
  · subst h
    simp
  · rw [if_pos (by omega), if_neg h]
theorem B_w_same (h : pH) (a k : Nat) (v : Int32) : px_w h a k v a k = v := by
  unfold px_w
  rw [if_pos ⟨rfl, rfl⟩]
theorem B_w_cell (h : pH) {a b : Nat} (k : Nat) (v : Int32) (hb : b ≠ a) : px_w h a k v b = h b := by
  funext j
  unfold px_w
  rw [if_neg (fun q => hb q.1)]
theorem B_w_at (h : pH) (a k j : Nat) (v : Int32) : px_w h a k v a j = if j = k then v else h a j := by
  unfold px_w
  by_cases hq : j = k
  · rw [if_pos ⟨rfl, hq⟩, if_pos hq]
  · rw [if_neg (fun q => hq q.2), if_neg hq]
theorem px_w_w (S : pH) (i k : Nat) (u v : Int32) : px_w (px_w S i k u) i k v = px_w S i k v := by
  funext a j
  unfold px_w
  by_cases q : a = i ∧ j = k
  · rw [if_pos q, if_pos q]
  · rw [if_neg q, if_neg q, if_neg q]
theorem px_w_id {Z : pH} {i k : Nat} {v : Int32} (e : Z i k = v) : px_w Z i k v = Z := by
  funext a j
  unfold px_w
  by_cases q : a = i ∧ j = k
  · rw [if_pos q, q.1, q.2, e]
  · rw [if_neg q]
theorem px_w_comm (h : pH) {a k b j : Nat} (u v : Int32) (hab : a ≠ b) : px_w (px_w h a k u) b j v = px_w (px_w h b j v) a k u := by
  funext c l
  unfold px_w
  by_cases q1 : c = b ∧ l = j
  · rw [if_pos q1, if_neg (fun q => hab (by omega)), if_pos q1]
  · rw [if_neg q1]
    by_cases q2 : c = a ∧ l = k
    · rw [if_pos q2, if_pos q2]
    · rw [if_neg q2, if_neg q2, if_neg q1]
theorem tl_clear_s (h : pH) : tl_clear h = some (0, px_w h 45 1 0) := by
  unfold tl_clear
  rw [bc_0]
theorem B_rc_nil (h : pH) : B_rc (px_w h 45 1 0) [] := ⟨rfl, fun k hk => by simp at hk⟩
theorem B_rm_nil (h : pH) : B_rm (px_w h 51 13 0) [] := ⟨rfl, fun k hk => by simp at hk⟩
theorem tl_add_s {h : pH} {l : List Int32} (x : Int32) (R : B_rc h l) (hl : l.length < 10) : ∃ h', tl_add x h = some (0, h') ∧ B_rc h' (l ++ [x]) ∧ B_fr B_frw h h' := by
  obtain ⟨r1, r2⟩ := R
  refine ⟨px_w (px_w h 46 l.length x) 45 1 (nI (l.length + 1)), ?_, ⟨?_, fun k hk => ?_⟩, ((B_fr.refl _ h).w rfl).w rfl⟩
  · have e1 : px_len 46 = 10 := rfl
    unfold tl_add
    simp (disch := omega) only [e1, r1, bn_le, bn_lt, bn_eq, bn_le0, bn_0le, bn_lt0, bn_0lt, bn_eq0, bn_0eq, bn_eqm, bn_mlt0, bn_0lem, bn_m0, bn_mle0, bn_ltm, bn_mlt, bn_mle, bn_lem, nI_add, pk_mul, pk_sub, nI_clamp, B_n_nI, bn_0, B_bind, B_bind_if, B_ift, B_bz0, B_bz1, B_01_bz, B_01_e0, B_01_e1, if_pos, if_neg, reduceIte, Bool.false_eq_true, Bool.true_eq_false, wp_4, wq_4, wp_5, wq_5, wp_6, wq_6, wp_7, wq_7, wp_8, wq_8, wp_9, wq_9, wp_10, wq_10, wp_11, wq_11, wp_12, wq_12, wp_13, wq_13, wp_15, wq_15, wp_16, wq_16, wp_18, wq_18, wp_19, wq_19, wp_20, wq_20, wp_23, wq_23, wp_24, wq_24, wp_26, wq_26, wp_27, wq_27, wp_28, wq_28, wp_29, wq_29, wp_30, wq_30, wp_31, wq_31, wp_32, wq_32, wp_34, wq_34, wp_35, wq_35, wp_36, wq_36, wp_37, wq_37, wp_38, wq_38, wp_39, wq_39, wp_40, wq_40, wp_42, wq_42, wp_44, wq_44, wp_46, wq_46, wp_48, wq_48, wp_49, wq_49, wp_50, wq_50, tl_add_34, B_w_cell, bc_0, bc_m1, bc_1, bc_2, bc_3, bc_4, bc_5, bc_6, bc_7, bc_8, bc_9, bc_10, bc_11, bc_12, bc_13, bc_16, bc_22, bc_24, bc_32, bc_40, bc_41, bc_42, bc_43, bc_44, bc_45, bc_47, bc_48, bc_52, bc_57, bc_58, bc_59, bc_60, bc_61, bc_62, bc_63, bc_64, bc_76, bc_80, bc_97, bc_99, bc_105, bc_106, bc_107, bc_108, bc_109, bc_110, bc_111, bc_112, bc_113, bc_114, bc_115, bc_116, bc_117, bc_118, bc_119, bc_120, bc_121, bc_122, bc_255, bc_256, bc_400, bc_572, bc_999, bc_1024, bc_10000, bc_m2, bc_m3, bc_m8, bc_m100, bc_m200]
  · rw [B_w_same, List.length_append, List.length_singleton]
  · rw [B_getD_app l x hk, B_w_cell _ _ _ (show (46 : Nat) ≠ 45 by decide), B_w_at]
    by_cases hq : k = l.length
    · rw [if_pos hq, if_pos hq]
    · rw [if_neg hq, if_neg hq]
      rw [List.length_append, List.length_singleton] at hk
      exact r2 k (by omega)
theorem mo_tell_s {h : pH} {l : List Int32} (x : Int32) (R : B_rm h l) (hl : l.length < 10) : ∃ h', mo_tell x h = some (0, h') ∧ B_rm h' (l ++ [x]) ∧ B_fr B_frm h h' := by
  obtain ⟨r1, r2⟩ := R
  refine ⟨px_w (px_w h 59 l.length x) 51 13 (nI (l.length + 1)), ?_, ⟨?_, fun k hk => ?_⟩, ((B_fr.refl _ h).w rfl).w rfl⟩
  · unfold mo_tell
    simp (disch := omega) only [r1, bn_le, bn_lt, bn_eq, bn_le0, bn_0le, bn_lt0, bn_0lt, bn_eq0, bn_0eq, bn_eqm, bn_mlt0, bn_0lem, bn_m0, bn_mle0, bn_ltm, bn_mlt, bn_mle, bn_lem, nI_add, pk_mul, pk_sub, nI_clamp, B_n_nI, bn_0, B_bind, B_bind_if, B_ift, B_bz0, B_bz1, B_01_bz, B_01_e0, B_01_e1, if_pos, if_neg, reduceIte, Bool.false_eq_true, Bool.true_eq_false, po_52, pz_52, po_53, pz_53, po_54, pz_54, po_55, pz_55, po_56, pz_56, po_57, pz_57, po_58, pz_58, po_59, pz_59, po_60, pz_60, po_61, pz_61, po_62, pz_62, po_63, pz_63, po_64, pz_64, po_65, pz_65, po_66, pz_66, po_67, pz_67, po_68, pz_68, po_69, pz_69, po_70, pz_70, po_71, pz_71, po_72, pz_72, po_73, pz_73, po_74, pz_74, po_75, pz_75, po_76, pz_76, po_77, pz_77, po_78, pz_78, po_79, pz_79, po_80, pz_80, po_81, pz_81, bc_0, bc_m1, bc_1, bc_2, bc_3, bc_4, bc_5, bc_6, bc_7, bc_8, bc_9, bc_10, bc_11, bc_12, bc_13, bc_16, bc_22, bc_24, bc_32, bc_40, bc_41, bc_42, bc_43, bc_44, bc_45, bc_47, bc_48, bc_52, bc_57, bc_58, bc_59, bc_60, bc_61, bc_62, bc_63, bc_64, bc_76, bc_80, bc_97, bc_99, bc_105, bc_106, bc_107, bc_108, bc_109, bc_110, bc_111, bc_112, bc_113, bc_114, bc_115, bc_116, bc_117, bc_118, bc_119, bc_120, bc_121, bc_122, bc_255, bc_256, bc_400, bc_572, bc_999, bc_1024, bc_10000, bc_m2, bc_m3, bc_m8, bc_m100, bc_m200]
    rw [B_w_cell h l.length x (show (51 : Nat) ≠ 59 by decide), r1, nI_add]
  · rw [B_w_same, List.length_append, List.length_singleton]
  · rw [B_getD_app l x hk, B_w_cell _ _ _ (show (59 : Nat) ≠ 51 by decide), B_w_at]
    by_cases hq : k = l.length
    · rw [if_pos hq, if_pos hq]
    · rw [if_neg hq, if_neg hq]
      rw [List.length_append, List.length_singleton] at hk
      exact r2 k (by omega)
theorem tl_tell_s (h : pH) (x : Int32) : ∃ h', tl_tell x h = some (0, h') ∧ B_rc h' [x] ∧ B_fr B_frw h h' := by
  obtain ⟨h1, e1, r1, f1⟩ := tl_add_s x (B_rc_nil h) (by decide)
  refine ⟨h1, ?_, r1, ((B_fr.refl _ h).w rfl).trans f1⟩
  unfold tl_tell
  simp only [tl_clear_s, B_bind, e1]
theorem tl_tell_2 (h : pH) (x y : Int32) : ∃ h', tl_tell_ x y h = some (0, h') ∧ B_rc h' [x, y] ∧ B_fr B_frw h h' := by
  obtain ⟨h1, e1, r1, f1⟩ := tl_tell_s h x
  obtain ⟨h2, e2, r2, f2⟩ := tl_add_s y r1 (by simp)
  refine ⟨h2, ?_, r2, f1.trans f2⟩
  unfold tl_tell_
  simp only [B_bind, e1, e2]
theorem tl_tell_3 (h : pH) (x y z : Int32) : ∃ h', tl_tell__ x y z h = some (0, h') ∧ B_rc h' [x, y, z] ∧ B_fr B_frw h h' := by
  obtain ⟨h1, e1, r1, f1⟩ := tl_tell_2 h x y
  obtain ⟨h2, e2, r2, f2⟩ := tl_add_s z r1 (by simp)
  refine ⟨h2, ?_, r2, f1.trans f2⟩
  unfold tl_tell__
  simp only [B_bind, e1, e2]
theorem B_frw_sc : ∀ a k, B_frw a k = true → B_sc a k = true := fun a k e => by
  unfold B_frw at e
  split at e
  · have := Nat.eq_of_beq_eq_true e
    subst this
    rfl
  · rfl
  · cases e
theorem B_frm_sd : ∀ a k, B_frm a k = true → B_sd a k = true := fun a k e => by
  unfold B_frm at e
  split at e
  · have := Nat.eq_of_beq_eq_true e
    subst this
    rfl
  · rfl
  · cases e
/-- a question that was refused, or one that tells no row -/
theorem B_q0 {h h1 h2 : pH} {P T K Y i n : Nat} {S : pH} {ev : pE} (I : I_h h P T K Y i n S ev) (r : I_row h) (x : B_fr B_sc h h1) (y : B_fr B_sd h1 h2) (r1 : h1 45 1 = h 45 1) (r2 : h1 46 = h 46) (r3 : h2 51 13 = h1 51 13) (r4 : h2 59 = h1 59) : Inv (i + 5) h2 :=
  ⟨P, T, K, Y, n, S, ev, ((I.sm x.sm_c).sm y.sm_d).up (by omega), r.sm (by rw [B_sd_c y (by decide), r1]) (by rw [← r2]; exact funext fun k => B_sd_c y (by decide)) (by rw [r3, B_sc_m x (by decide)]) (by rw [r4]; exact funext fun k => B_sc_m x (by decide))⟩
/-- a question that tells a row -/
theorem B_q1 {h h1 h2 : pH} {P T K Y i n : Nat} {S : pH} {ev : pE} {l : List Int32} (I : I_h h P T K Y i n S ev) (x : B_fr B_sc h h1) (y : B_fr B_sd h1 h2) (r1 : B_rc h1 l) (r2 : B_rm h2 l) (hl : l.length ≤ 10) : Inv (i + 5) h2 :=
  ⟨P, T, K, Y, n, S, ev, ((I.sm x.sm_c).sm y.sm_d).up (by omega), l.length, hl, by rw [B_sd_c y (by decide)]; exact r1.1, r2.1, fun k hk => by rw [B_sd_c y (by decide), r1.2 k hk, r2.2 k hk]⟩
/-- m.thrown = 0 -/
def B_t0 (h : pH) : pH := px_w h 51 14 0
theorem B_t0_fr (h : pH) : B_fr B_sd h (B_t0 h) := (B_fr.refl _ h).w rfl
