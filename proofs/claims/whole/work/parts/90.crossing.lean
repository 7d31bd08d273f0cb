/-! Layer B: cross, look -/
section CROSSING
variable {i : Nat} {h : pH} {P T K Y n U s : Nat} {S : pH} {ev : pE} {ab : Int32}
/-- the text's signs, as numbers -/
def B_sg (h : pH) : Nat → Nat := fun k => B_n (h 2 k)
theorem I_txt.sg (X : I_txt h n) : (∀ j, j < n → h 2 j = nI (B_sg h j)) ∧ (∀ j, j < n → B_sg h j < 256) ∧ (∀ j, j < n → h 58 j = B_byte (B_sg h j)) := by
  obtain ⟨x1, x2, x3, x4⟩ := X
  have e : ∀ j, j < n → ∃ c, c < 256 ∧ h 2 j = nI c ∧ h 58 j = B_byte c ∧ B_sg h j = c := fun j hj => by
    obtain ⟨c, c1, c2, c3⟩ := x4 j hj
    exact ⟨c, c1, c2, c3, by unfold B_sg; rw [c2, B_n_nI (by omega)]⟩
  refine ⟨fun j hj => ?_, fun j hj => ?_, fun j hj => ?_⟩
  · obtain ⟨c, c1, c2, c3, c4⟩ := e j hj
    rw [c4, c2]
  · obtain ⟨c, c1, c2, c3, c4⟩ := e j hj
    rw [c4]
    exact c1
  · obtain ⟨c, c1, c2, c3, c4⟩ := e j hj
    rw [c4, c3]
theorem S_rd_val {sg : Nat → Nat} (W : R_w P T K Y S) : ∀ (m k : Nat) (r : List Nat), r_ok r T → r.length = k → (S_rd S T ab sg m k r).1 = 0 ∨ ∃ j, j < 7 ∧ (S_rd S T ab sg m k r).1 = -1 - nI j := by
  intro m
  induction m with
  | zero =>
    intro k r hr hk
    unfold S_rd
    by_cases q : k = 0
    · rw [if_pos q]
      exact Or.inr ⟨0, by omega, rfl⟩
    · rw [if_neg q]
      exact Or.inl rfl
  | succ m ih =>
    intro k r hr hk
    unfold S_rd
    by_cases q : (decide (r.length < 6) && S_can S T ab r (nI (sg k) - nI 113)) = true
    · rw [if_pos q]
      rw [Bool.and_eq_true, decide_eq_true_eq] at q
      obtain ⟨t, ht, e, hn, -, -⟩ := S_can_ex W q.2
      have h10 := W.2.1
      rw [e, B_n_nI (by omega)]
      exact ih (k + 1) (r ++ [t]) (r_ok_app hr ht hn q.1) (by rw [List.length_append, List.length_singleton]; omega)
    · rw [if_neg q]
      exact Or.inr ⟨k, by have := hr.2.2; omega, rfl⟩
theorem S_emb_neg {sg : Nat → Nat} {x1 x2 x3 : Int32} (W : R_w P T K Y S) (hz : ¬ S_emb S P T Y n sg x1 x2 x3 = 0) : ¬ 0 ≤ S_emb S P T Y n sg x1 x2 x3 := by
  unfold S_emb at hz ⊢
  by_cases q : S_beg S P x1 x2 x3 = true
  · rw [if_pos q] at hz ⊢
    by_cases w1 : (S_rd S T (S_abd x1 x2) sg n 0 []).1 = 0
    · rw [if_pos w1] at hz ⊢
      by_cases w2 : S_dist S Y (B_n (S 1 (B_n x1))) (B_n x3) ≤ S_wds S (S_rd S T (S_abd x1 x2) sg n 0 []).2
      · rw [if_pos w2] at hz
        exact absurd rfl hz
      · rw [if_neg w2]
        decide
    · rw [if_neg w1]
      rcases S_rd_val (sg := sg) (ab := S_abd x1 x2) W n 0 [] (r_ok_nil T) rfl with e | ⟨j, hj, e⟩
      · exact absurd e w1
      · rw [e]
        have hd : ∀ j : Nat, j < 7 → ¬ (0 : Int32) ≤ -1 - nI j := by decide
        exact hd j hj
  · rw [if_neg q]
    decide
/-- all of the invariant but the text, over what a call that reads it wrote beside -/
theorem I_h.rd {h2 : pH} (I : I_h h P T K Y i n S ev) (f : ∀ a k, a ≠ 1 → B_p a k = true → ¬ (a = 51 ∧ k = 11) → h2 a k = h a k) (e1 : h2 1 1 = 0) (e2 : h2 51 11 = 0) : I_h h2 P T K Y i 0 S ev := by
  obtain ⟨R, M, W, X, V, E, L⟩ := I
  have r : ∀ a, a ≠ 1 → B_pls a = none → a ≠ 51 → h2 a = h a := fun a h1 hp h51 => funext fun k => f a k h1 (by unfold B_p; rw [hp]) (fun q => h51 q.1)
  refine ⟨?_, ?_, W, ⟨by omega, by rw [e1]; rfl, by rw [e2]; rfl, fun k hk => absurd hk (by omega)⟩, ?_, ?_, ?_⟩
  · unfold R_c at *
    rw [f 3 10 (by decide) rfl (by decide), f 3 11 (by decide) rfl (by decide), f 14 2 (by decide) rfl (by decide), f 14 3 (by decide) rfl (by decide), r 4 (by decide) rfl (by decide), r 5 (by decide) rfl (by decide), r 6 (by decide) rfl (by decide), r 7 (by decide) rfl (by decide), r 8 (by decide) rfl (by decide), r 9 (by decide) rfl (by decide), r 10 (by decide) rfl (by decide), r 11 (by decide) rfl (by decide), r 12 (by decide) rfl (by decide), r 13 (by decide) rfl (by decide), r 15 (by decide) rfl (by decide)]
    exact R
  · unfold R_m R_k R_a at *
    rw [f 51 4 (by decide) rfl (by decide), f 51 6 (by decide) rfl (by decide), f 51 2 (by decide) rfl (by decide), f 51 1 (by decide) rfl (by decide), r 54 (by decide) rfl (by decide), r 52 (by decide) rfl (by decide), r 55 (by decide) rfl (by decide), r 56 (by decide) rfl (by decide), r 57 (by decide) rfl (by decide), r 53 (by decide) rfl (by decide)]
    exact M
  · unfold I_und at *
    rw [f 51 35 (by decide) rfl (by decide), r 41 (by decide) rfl (by decide), r 42 (by decide) rfl (by decide), r 66 (by decide) rfl (by decide)]
    exact V
  · unfold I_kep at *
    rw [f 51 60 (by decide) rfl (by decide), r 41 (by decide) rfl (by decide), r 80 (by decide) rfl (by decide), r 81 (by decide) rfl (by decide), r 42 (by decide) rfl (by decide), r 79 (by decide) rfl (by decide)]
    exact E
  · unfold I_rul at *
    rw [f 17 4 (by decide) rfl (by decide), f 51 26 (by decide) rfl (by decide), r 18 (by decide) rfl (by decide), r 63 (by decide) rfl (by decide)]
    exact L
/-- places that a call which reads the text may write, beside the row: on the class's side, on the reference's -/
def B_sc1 (a k : Nat) : Bool := Nat.beq a 1 || B_sc a k
def B_sd1 (a k : Nat) : Bool := (Nat.beq a 51 && Nat.beq k 11) || B_sd a k
theorem B_sc_1 : ∀ a k, B_sc a k = true → B_sc1 a k = true := fun a k e => by
  unfold B_sc1
  rw [e, Bool.or_true]
theorem B_sd_1 : ∀ a k, B_sd a k = true → B_sd1 a k = true := fun a k e => by
  unfold B_sd1
  rw [e, Bool.or_true]
theorem E_emb_sc1 : ∀ a k, E_emb a k = true → B_sc1 a k = true := fun a k e => by
  unfold E_emb at e
  have : a = 1 ∨ a = 22 ∨ a = 23 := by simpa using e
  rcases this with rfl | rfl | rfl <;> rfl
theorem E_ln_sd1 : ∀ a k, E_ln a k = true → B_sd1 a k = true := fun a k e => by
  unfold E_ln at e
  split at e
  · have : k = 11 ∨ k = 30 := by simpa using e
    rcases this with rfl | rfl <;> rfl
  · rfl
  · cases e
theorem B_sc1_no {a k : Nat} (h1 : a ≠ 1) (e : B_sc a k = false) : B_sc1 a k = false := by
  unfold B_sc1
  rw [beq_ne h1, e]
  rfl
theorem I_h.rd2 {h1 h2 : pH} (I : I_h h P T K Y i n S ev) (x : B_fr B_sc1 h h1) (y : B_fr B_sd1 h1 h2) (e1 : h1 1 1 = 0) (e2 : h2 51 11 = 0) : I_h h2 P T K Y i 0 S ev := by
  refine I.rd (fun a k ha hp hn => ?_) ?_ e2
  · have q1 : B_sd1 a k = false := by
      unfold B_sd1 B_sd
      rw [hp]
      cases hq : (Nat.beq a 51 && Nat.beq k 11) with
      | false => simp
      | true =>
        rw [Bool.and_eq_true] at hq
        exact absurd ⟨Nat.eq_of_beq_eq_true hq.1, Nat.eq_of_beq_eq_true hq.2⟩ hn
    have q2 : B_sc1 a k = false := B_sc1_no ha (by unfold B_sc; rw [hp]; simp)
    rw [y a k q1, x a k q2]
  · rw [y 1 1 rfl, e1]
theorem B_sc1_m {h1 : pH} (x : B_fr B_sc1 h h1) {a k : Nat} (ha : 51 ≤ a) : h1 a k = h a k := x a k (B_sc1_no (by omega) (by
  unfold B_sc
  have : Nat.blt a 51 = false := by
    cases hq : Nat.blt a 51 with
    | false => rfl
    | true => have := (Nat.blt_eq).mp hq; omega
  rw [this]
  rfl))
theorem R_m.c1 {h1 : pH} (M : R_m h P T K Y S) (x : B_fr B_sc1 h h1) : R_m h1 P T K Y S := by
  have r : ∀ a, 51 ≤ a → h1 a = h a := fun a ha => funext fun k => B_sc1_m x ha
  unfold R_m R_k R_a at *
  rw [r 51 (by omega), r 54 (by omega), r 52 (by omega), r 55 (by omega), r 56 (by omega), r 57 (by omega), r 53 (by omega)]
  exact M
theorem R_c.c1 {h1 : pH} (R : R_c h P T K Y S) (x : B_fr E_emb h h1) : R_c h1 P T K Y S := R.cs (fun a g1 g2 => x.row a (fun k => by
  unfold E_emb
  have h1' : a ≠ 1 := by omega
  have h2' : a ≠ 22 := by omega
  have h3' : a ≠ 23 := by omega
  simp [h1', h2', h3']))
theorem C_h.c1 {h1 : pH} (C : C_h h P T K Y S ev) (x : B_fr E_emb h h1) : C_h h1 P T K Y S ev := by
  refine ⟨C.1.c1 x, ?_⟩
  rw [x 17 4 rfl, x.row 18 (fun _ => rfl)]
  exact C.2
/-- a refused one: the text is empty then -/
theorem B_rd0 {h1 h2 : pH} (I : I_h h P T K Y i n S ev) (r : I_row h) (x : B_fr B_sc1 h h1) (y : B_fr B_sd1 h1 h2) (e1 : h1 1 1 = 0) (e2 : h2 51 11 = 0) (r1 : h1 45 1 = h 45 1) (r2 : h1 46 = h 46) (r3 : h2 51 13 = h1 51 13) (r4 : h2 59 = h1 59) : Inv (i + 5) h2 :=
  ⟨P, T, K, Y, 0, S, ev, (I.rd2 x y e1 e2).up (by omega), r.sm (by rw [y 45 1 rfl, r1]) (by rw [← r2]; exact funext fun k => y 46 k rfl) (by rw [r3, B_sc1_m x (by decide)]) (by rw [r4]; exact funext fun k => B_sc1_m x (by decide))⟩
theorem B_rd1 {h1 h2 : pH} {l : List Int32} (I : I_h h P T K Y i n S ev) (x : B_fr B_sc1 h h1) (y : B_fr B_sd1 h1 h2) (e1 : h1 1 1 = 0) (e2 : h2 51 11 = 0) (r1 : B_rc h1 l) (r2 : B_rm h2 l) (hl : l.length ≤ 10) : Inv (i + 5) h2 :=
  ⟨P, T, K, Y, 0, S, ev, (I.rd2 x y e1 e2).up (by omega), l.length, hl, by rw [y 45 1 rfl]; exact r1.1, r2.1, fun k hk => by rw [y 46 k rfl, r1.2 k hk, r2.2 k hk]⟩
theorem mo_lay_t {a0 a1 : Nat} (h0 : B_sl a0) (h1 : B_sl a1) (hne : a0 ≠ a1) : mo_lay a0 a1 (px_c 0) h = some (0, B_cp h (h a0) a1 0) := by
  rw [bc_0, ← nI_0, mo_lay_s h0.t h0.l h1.t (by rw [h1.l]; omega) (by rw [h1.l]; omega) hne, nI_0]
theorem E_g_sd {a : Nat} (ha : B_sl a) (h52 : a ≠ 52) : ∀ b k, E_g a b k = true → B_sd b k = true := fun b k e => by
  unfold E_g at e
  split at e
  · have : k = 15 ∨ k = 16 ∨ k = 17 ∨ k = 18 ∨ k = 19 ∨ k = 27 ∨ k = 31 ∨ k = 32 ∨ k = 33 := by simpa using e
    rcases this with rfl | rfl | rfl | rfl | rfl | rfl | rfl | rfl | rfl <;> rfl
  · rfl
  · have := Nat.eq_of_beq_eq_true e
    subst this
    rcases ha with rfl | rfl | rfl | rfl | rfl
    · exact absurd rfl h52
    · rfl
    · rfl
    · rfl
    · rfl
theorem B_cp_fr {f : Nat → Int32} {a1 off : Nat} {p : Nat → Nat → Bool} (hp : ∀ k, p a1 k = true) : B_fr p h (B_cp h f a1 off) := fun a k e => by
  unfold B_cp
  rw [if_neg (fun q => ?_)]
  rw [q.1, hp k] at e
  cases e
/-- tellCross of both sides -/
theorem mo_tellCross_s {a p : Nat} {Z : pH} {X : Nat × Option Nat × pH} (ha : B_sl a) (hp : p < P) (h6 : P ≤ 6) (A : R_a h a P T Z) (e31 : h 51 31 = nI X.1) (e32 : h 51 32 = S_enc X.2.1) : ∃ h', mo_tellCross a (nI p) h = some (0, h') ∧ B_rm h' [Z 1 p, S_enc X.2.1, nI X.1] ∧ B_fr B_frm h h' := by
  have ha51 : (51 : Nat) ≠ a := ha.ne (by decide) (by decide) (by decide) (by decide) (by decide)
  obtain ⟨h2, e2, r2, f2⟩ := mo_tell_s (Z 1 p) (B_rm_nil h) (by decide)
  obtain ⟨h3, e3, r3, f3⟩ := mo_tell_s (S_enc X.2.1) r2 (by simp)
  obtain ⟨h4, e4, r4, f4⟩ := mo_tell_s (nI X.1) r3 (by simp)
  have F1 : B_fr B_frm h (px_w h 51 13 0) := (B_fr.refl _ h).w rfl
  refine ⟨h4, ?_, r4, ((F1.trans f2).trans f3).trans f4⟩
  unfold mo_tellCross
  have e1 : (px_w h 51 13 0) a p = Z 1 p := by rw [B_w_cell _ _ _ (Ne.symm ha51), A.1 p hp]
  rw [bc_0, px_ok_a ha.t ha.l (show p < 52 by omega), B_ift, nI_clamp (by omega)]
  rw [e1, e2, B_bind, f2 51 32 rfl, B_w_at, if_neg (by decide), e32, e3, B_bind, f3 51 31 rfl, f2 51 31 rfl, B_w_at, if_neg (by decide), e31, e4, B_bind]
/-- where one that is aboard is then -/
theorem S_fin_at {X : Nat × Option Nat × pH} {p b f : Nat} (hb : B_bit ab p = true) : S_fin S Y K ab f b X 1 p = S_pl S Y K f b X := by
  unfold S_fin S_mv
  rw [if_pos ⟨rfl, hb⟩]
theorem S_abd_bit {p : Nat} (hp : p < 32) (x2 : Int32) : B_bit (S_abd (nI p) x2) p = true := by
  unfold S_abd
  rw [B_bit_or, B_bit_sh hp hp]
  simp
theorem B_look (hI : Inv i h) (v0 v1 v2 : Int32) : ∃ r h1 h2, wu_look v0 v1 v2 h = some (r, h1) ∧ mo_look v0 v1 v2 h1 = some (r, h2) ∧ Inv (i + 5) h2 := by
  obtain ⟨P, T, K, Y, n, S, ev, I, r⟩ := hI
  obtain ⟨R, M, W, X, V, E, L⟩ := id I
  have h6 := W.1
  have h5 := W.2.2.1
  have h10 := W.2.1
  obtain ⟨sg1, sg2, sg3⟩ := X.sg
  obtain ⟨h1, a1, a2, a3, a4⟩ := wu_embark_s (sg := B_sg h) v0 v1 v2 X.1 X.2.1 sg1 R W
  have F1 := a3.mono E_emb_sc1
  -- the reference, from whatever the class left
  have hmo : ∀ hh, B_fr B_sc1 h hh → ∃ h3, mo_readLine0 (if S_beg S P v0 v1 v2 = true then S_abd v0 v1 else 0) (if S_beg S P v0 v1 v2 = true then S 1 (B_n v0) else 0) v2 (B_t0 hh) = some (S_emb S P T Y n (B_sg h) v0 v1 v2, h3) ∧ h3 51 11 = 0 ∧ B_fr E_ln (B_t0 hh) h3 ∧ (S_emb S P T Y n (B_sg h) v0 v1 v2 = 0 → M_row h3 (S_rd S T (S_abd v0 v1) (B_sg h) n 0 []).2) := fun hh f => mo_readLine0_s v0 v1 v2 X.1 (by rw [B_t0_at _ (by decide), B_sc1_m f (by decide)]; exact X.2.2.1) sg2 (fun j hj => by rw [B_t0_row _ (by decide), B_sc1_m f (by decide)]; exact sg3 j hj) ((M.c1 f).sm (B_t0_fr hh).sm_d) W
  have hmo2 : ∀ hh, B_fr B_sc1 h hh → mo_look v0 v1 v2 hh = px_bind (mo_readLine0 (if S_beg S P v0 v1 v2 = true then S_abd v0 v1 else 0) (if S_beg S P v0 v1 v2 = true then S 1 (B_n v0) else 0) v2 (B_t0 hh)) fun z1 h2 => if 0 ≤ z1 then px_bind (mo_lay 52 68 (px_c 0) h2) fun _ h4 => px_if (px_ok 0 52 v0) (px_bind (mo_goes 68 (if S_beg S P v0 v1 v2 = true then S_abd v0 v1 else 0) (h4 52 v0.toNatClampNeg) v2 h4) fun _ h6 => px_bind (mo_tellCross 68 v0 h6) fun _ h8 => some (h8 51 31, h8)) else some (z1, h2) := by
    intro hh f
    have M' := (M.c1 f).sm (B_t0_fr hh).sm_d
    unfold mo_look
    rw [bc_0]
    show px_bind (mo_aboardOf v0 v1 v2 (B_t0 hh)) _ = _
    rw [mo_aboardOf_s _ _ _ M' W, B_bind]
    unfold mo_look_32
    cases q : S_beg S P v0 v1 v2 with
    | false => simp only [Bool.false_eq_true, if_false, if_true, bc_0]
    | true =>
      obtain ⟨p, b, f2, hp, hb, hf, rfl, rfl, ef, hfb, -⟩ := S_beg_ex W q
      simp only [if_true]
      rw [if_neg (S_abd_ne (by omega) v1), po_52 (by omega), B_ift, nI_clamp (by omega), M'.2.1 p hp, B_n_nI (by omega), bc_0]
  by_cases hz : S_emb S P T Y n (B_sg h) v0 v1 v2 = 0
  · have q : S_beg S P v0 v1 v2 = true := by
      cases q : S_beg S P v0 v1 v2 with
      | true => rfl
      | false =>
        unfold S_emb at hz
        rw [q, if_neg (by decide)] at hz
        exact absurd hz (by decide)
    obtain ⟨p, b, f, hp, hb, hf, rfl, rfl, ef, hfb, -⟩ := S_beg_ex W q
    have ep : B_n (nI p) = p := B_n_nI (by omega)
    have eb : B_n (nI b) = b := B_n_nI (by omega)
    have efn : B_n (nI f) = f := B_n_nI (by omega)
    obtain ⟨c1, c2, c3, c4, c5⟩ := a4 hz
    rw [ep, ef] at c3
    rw [ep, eb, ef, efn] at c5
    have hD : S_dist S Y f b ≤ 60 := by
      have l1 := S_yd_le W hf
      have l2 := S_yd_le W (show b < 2 + K by omega)
      unfold S_dist
      omega
    have hok := (S_rd_ok (sg := B_sg h) (ab := S_abd (nI p) v1) W n 0 [] (r_ok_nil T) rfl).1
    have hwd : S_dist S Y f b ≤ S_wds S (S_rd S T (S_abd (nI p) v1) (B_sg h) n 0 []).2 := by
      unfold S_emb at hz
      rw [q, if_pos rfl, ep, eb, ef, efn] at hz
      by_cases w1 : (S_rd S T (S_abd (nI p) v1) (B_sg h) n 0 []).1 = 0
      · rw [if_pos w1] at hz
        by_cases w2 : S_dist S Y f b ≤ S_wds S (S_rd S T (S_abd (nI p) v1) (B_sg h) n 0 []).2
        · exact w2
        · rw [if_neg w2] at hz
          exact absurd hz (by decide)
      · rw [if_neg w1] at hz
        exact absurd hz w1
    generalize hr : (S_rd S T (S_abd (nI p) v1) (B_sg h) n 0 []).2 = rr at *
    have C1 : C_h h1 P T K Y S ev := C_h.c1 ⟨R, L.1⟩ a3
    obtain ⟨h2, g1, g2, g3, g4, g5, -⟩ := cr_go_s (ev := ev) hD hf hb hok.1 hok.2.1 W C1 c1 c2 c3 c4 c5
    obtain ⟨h3, t1, t2, t3⟩ := tl_tell_3 h2 (h2 22 12) (h2 22 11) (h2 22 10)
    have F2 : B_fr B_sc1 h h3 := (F1.trans (g2.mono (fun a k e => B_sc_1 a k (E_go_sc a k e)))).trans (t3.mono (fun a k e => B_sc_1 a k (B_frw_sc a k e)))
    obtain ⟨h4, m1, m2, m3, m4⟩ := hmo h3 F2
    have Mr := m4 hz
    have M4 : R_m h4 P T K Y S := ((M.c1 F2).sm (B_t0_fr h3).sm_d).ln m3
    have ML : M_h h4 P T K Y S ev := ⟨M4.1, by
      have := L.2
      rw [m3 51 26 rfl, m3.row 63 (fun _ => rfl), B_t0_at _ (by decide), B_t0_row _ (by decide), B_sc1_m F2 (by decide), show h3 63 = h 63 from funext fun k => B_sc1_m F2 (by decide)]
      exact this⟩
    have hlay := mo_lay_t (h := h4) (a0 := 52) (a1 := 68) (Or.inl rfl) (Or.inr (Or.inl rfl)) (by decide)
    have F5 : B_fr (E_g 68) h4 (B_cp h4 (h4 52) 68 0) := B_cp_fr (fun k => rfl)
    have M5 := ML.fr (Or.inr (Or.inl rfl)) F5
    have A5 : R_a (B_cp h4 (h4 52) 68 0) 68 P T S := B_cp_A M4.2 h6 h10 68
    have Mr5 : M_row (B_cp h4 (h4 52) 68 0) rr := Mr.fr (Or.inr (Or.inl rfl)) F5
    have e52 : (B_cp h4 (h4 52) 68 0) 52 p = nI f := by rw [B_cp_ne (by decide), M4.2.1 p hp, ef]
    obtain ⟨h6', n1, n2⟩ := mo_goes_s (ab := S_abd (nI p) v1) (Or.inr (Or.inl rfl)) hf hb W hok.1 hok.2.1 rfl hwd M5 A5 Mr5
    obtain ⟨n3, n4, n5, n6⟩ := n2
    obtain ⟨h8, o1, o2, o3⟩ := mo_tellCross_s (p := p) (Or.inr (Or.inl rfl)) hp h6 n3 n4 n5
    have hab := S_abd_bit (show p < 32 by omega) v1
    rw [S_fin_at hab] at o2
    refine ⟨nI (S_go ev S (S_dist S Y f b) (S_abd (nI p) v1) rr).1, h3, h8, ?_, ?_, ?_⟩
    · unfold wu_look wu_tellCrossing
      rw [a1, B_bind, hz, if_pos (by decide), g1, B_bind, t1, B_bind, B_bind, t3 22 10 rfl, g3]
    · rw [hmo2 h3 F2, m1, B_bind, hz, if_pos (by decide), hlay, B_bind, po_52 (by omega), B_ift, nI_clamp (by omega), e52, q, if_pos rfl, n1, B_bind, o1, B_bind, o3 51 31 rfl, n4]
    · have FY : B_fr B_sd1 h3 h8 := ((((B_t0_fr h3).mono B_sd_1).trans (m3.mono E_ln_sd1)).trans ((F5.trans n6).mono (fun a k e => B_sd_1 a k (E_g_sd (Or.inr (Or.inl rfl)) (by decide) a k e)))).trans (o3.mono (fun a k e => B_sd_1 a k (B_frm_sd a k e)))
      refine B_rd1 (l := [h2 22 12, h2 22 11, h2 22 10]) I F2 FY ?_ ?_ t2 ?_ (by simp)
      · rw [t3 1 1 rfl, g2 1 1 rfl, a2]
      · rw [o3 51 11 rfl, n6 51 11 rfl, F5 51 11 rfl, m2]
      · rw [g3, g4, g5]
        exact o2
  · have hneg : ¬ 0 ≤ S_emb S P T Y n (B_sg h) v0 v1 v2 := S_emb_neg W hz
    obtain ⟨h4, m1, m2, m3, m4⟩ := hmo h1 F1
    refine ⟨S_emb S P T Y n (B_sg h) v0 v1 v2, h1, h4, ?_, ?_, ?_⟩
    · unfold wu_look
      rw [a1, B_bind, if_neg hneg]
    · rw [hmo2 h1 F1, m1, B_bind, if_neg hneg]
    · exact B_rd0 I r F1 (((B_t0_fr h1).mono B_sd_1).trans (m3.mono E_ln_sd1)) a2 m2 (a3 45 1 rfl) (a3.row 46 (fun _ => rfl)) (by rw [m3 51 13 rfl, B_t0_at _ (by decide)]) (by rw [m3.row 59 (fun _ => rfl), B_t0_row _ (by decide)])
end CROSSING
