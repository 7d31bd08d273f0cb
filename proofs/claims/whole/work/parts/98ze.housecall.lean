/-! Layer B: house, the call -/
section HOUSECALL
variable {i n : Nat} {h h2 : pH} {P T K Y P2 T2 : Nat} {S S2 : pH} {ev : pE}
/-- what a house may change -/
def E_H (P T : Nat) : Nat → Nat → Bool := fun a k => match a with
  | 1 => [1, 2, 3, 4].contains k
  | 3 => [10, 11, 12, 13].contains k
  | 4 => Nat.ble P k
  | 5 => Nat.ble P k
  | 6 => Nat.ble P k
  | 7 => Nat.ble T k
  | 8 => Nat.ble T k
  | 9 => Nat.ble T k
  | 10 => Nat.ble T k
  | 11 => Nat.ble T k
  | 12 => Nat.ble T k
  | 13 => Nat.ble T k
  | 41 => [1, 2].contains k
  | 51 => [4, 6, 11, 14, 15, 16, 17, 18, 19, 23, 24, 35, 60].contains k
  | 52 => E_mip P 52 k || E_mit T 52 k
  | 54 => Nat.ble P k
  | 55 => Nat.ble T k
  | 56 => Nat.ble T k
  | 57 => Nat.ble T k
  | 61 => true
  | 62 => true
  | _ => false
theorem E_hs_H : ∀ a k, E_hs P T a k = true → E_H P T a k = true := fun a k e => by
  unfold E_hs at e
  split at e
  · have : k = 2 ∨ k = 3 ∨ k = 4 := by simpa using e
    rcases this with rfl | rfl | rfl <;> rfl
  · have : k = 12 ∨ k = 13 := by simpa using e
    rcases this with rfl | rfl <;> rfl
  · exact e
  · exact e
  · exact e
  · exact e
  · exact e
  · exact e
  · exact e
  · exact e
  · exact e
  · exact e
  · cases e
theorem E_mh_H : ∀ a k, E_mh a k = true → E_H P T a k = true := fun a k e => by
  unfold E_mh at e
  split at e
  · have : k = 18 ∨ k = 19 ∨ k = 23 ∨ k = 24 := by simpa using e
    rcases this with rfl | rfl | rfl | rfl <;> rfl
  · rfl
  · rfl
  · cases e
theorem E_mip_H : ∀ a k, E_mip P a k = true → E_H P T a k = true := fun a k e => by
  by_cases q : a = 52
  · subst q
    show (E_mip P 52 k || E_mit T 52 k) = true
    rw [e]
    rfl
  · unfold E_mip at e
    split at e
    · have := Nat.eq_of_beq_eq_true e
      subst this
      rfl
    · exact e
    · exact absurd rfl q
    · cases e
theorem E_mit_H : ∀ a k, E_mit T a k = true → E_H P T a k = true := fun a k e => by
  by_cases q : a = 52
  · subst q
    show (E_mip P 52 k || E_mit T 52 k) = true
    rw [e, Bool.or_true]
  · unfold E_mit at e
    split at e
    · have : k = 6 ∨ k = 35 ∨ k = 60 := by simpa using e
      rcases this with rfl | rfl | rfl <;> rfl
    · exact e
    · exact e
    · exact e
    · exact absurd rfl q
    · cases e
theorem M_bg_H {most : Nat} : B_fr (E_H P T) h (M_bg h n most) := by
  unfold M_bg B_t0
  exact (((((((B_fr.refl _ h).w rfl).w rfl).w rfl).w rfl).w rfl).w rfl).w rfl
theorem E_H_52p {p : Nat} (h6 : P ≤ 6) (hp : p < P) : E_H P T 52 p = false ∧ E_H P T 52 (6 + p) = false := by
  constructor
  · show (E_mip P 52 p || E_mit T 52 p) = false
    rw [E_mip_52f (by omega), E_mit_52f (by omega)]
    rfl
  · show (E_mip P 52 (6 + p) || E_mit T 52 (6 + p)) = false
    rw [E_mip_52f (by omega), E_mit_52f (by omega)]
    rfl
theorem E_H_52t {t : Nat} (h10 : T ≤ 10) (ht : t < T) : (E_H P T 52 (12 + t) = false ∧ E_H P T 52 (22 + t) = false) ∧ E_H P T 52 (32 + t) = false ∧ E_H P T 52 (42 + t) = false := by
  have hh : ∀ x, (x = 12 + t ∨ x = 22 + t ∨ x = 32 + t ∨ x = 42 + t) → E_H P T 52 x = false := fun x hx => by
    show (E_mip P 52 x || E_mit T 52 x) = false
    rw [E_mip_52f (by omega), E_mit_52f (by omega)]
    rfl
  exact ⟨⟨hh _ (by omega), hh _ (by omega)⟩, hh _ (by omega), hh _ (by omega)⟩
/-- what is read, as a state -/
def S_nh (P T : Nat) (a : hA) (S : pH) : pH := fun i k => match i with
  | 0 => if P ≤ k then nI (a.2.2.1 k).1 else S 0 k
  | 1 => if P ≤ k then nI (a.2.2.1 k).2 else S 1 k
  | 2 => if P ≤ k then nI 5 else S 2 k
  | 3 => if T ≤ k then nI (a.2.2.2 k).2.1 else S 3 k
  | 4 => if T ≤ k then nI (a.2.2.2 k).2.1 else S 4 k
  | 5 => if T ≤ k then nI (a.2.2.2 k).2.2.1 else S 5 k
  | 6 => if T ≤ k then nI (a.2.2.2 k).1 else S 6 k
  | 7 => if T ≤ k then (a.2.2.2 k).2.2.2.1 else S 7 k
  | 8 => if T ≤ k then 0 else S 8 k
  | 9 => if T ≤ k then nI 1 <<< (nI (a.2.2.2 k).1 &&& 31) else S 9 k
  | j => S j k
theorem S_nh_W {a : hA} (W : R_w P T K Y S) (ho : H_ok P T a) : R_w a.1 a.2.1 K Y (S_nh P T a S) := by
  obtain ⟨h6, h10, h5, hY2, hY60, w0, w1, w2, w4, w6, w7, w8, w9, w10, w11⟩ := W
  obtain ⟨o1, o2, o3, o4, o5, o6⟩ := ho
  refine ⟨o2, o4, h5, hY2, hY60, fun p hp => ?_, fun p hp => ?_, fun p hp => ?_, fun p hp => ?_, fun p hp => ?_, fun p hp => ?_, fun p hp => ?_, fun p hp => ?_, w10, w11⟩
  · show ∃ v, 1 ≤ v ∧ v ≤ 99 ∧ (if P ≤ p then nI (a.2.2.1 p).1 else S 0 p) = nI v
    by_cases q : P ≤ p
    · rw [if_pos q]
      obtain ⟨x1, x2, x3⟩ := o5 p q hp
      exact ⟨_, x1, x2, rfl⟩
    · rw [if_neg q]
      exact w0 p (by omega)
  · show B_lt (if P ≤ p then nI (a.2.2.1 p).2 else S 1 p) (2 + K)
    by_cases q : P ≤ p
    · rw [if_pos q]
      obtain ⟨x1, x2, x3⟩ := o5 p q hp
      exact ⟨_, by omega, rfl⟩
    · rw [if_neg q]
      exact w1 p (by omega)
  · show B_lt (if P ≤ p then nI 5 else S 2 p) 100
    by_cases q : P ≤ p
    · rw [if_pos q]
      exact ⟨5, by omega, rfl⟩
    · rw [if_neg q]
      exact w2 p (by omega)
  · show B_lt (if T ≤ p then nI (a.2.2.2 p).2.1 else S 4 p) 41
    by_cases q : T ≤ p
    · rw [if_pos q]
      obtain ⟨x1, x2, x3⟩ := o6 p q hp
      exact ⟨_, by omega, rfl⟩
    · rw [if_neg q]
      exact w4 p (by omega)
  · show B_lt (if T ≤ p then nI (a.2.2.2 p).1 else S 6 p) a.1
    by_cases q : T ≤ p
    · rw [if_pos q]
      obtain ⟨x1, x2, x3⟩ := o6 p q hp
      exact ⟨_, x1, rfl⟩
    · rw [if_neg q]
      obtain ⟨v, hv, e⟩ := w6 p (by omega)
      exact ⟨v, by omega, e⟩
  · show (if T ≤ p then (a.2.2.2 p).2.2.2.1 else S 7 p) = -1 ∨ B_lt (if T ≤ p then (a.2.2.2 p).2.2.2.1 else S 7 p) a.1
    by_cases q : T ≤ p
    · rw [if_pos q]
      obtain ⟨x1, x2, x3⟩ := o6 p q hp
      exact x3
    · rw [if_neg q]
      rcases w7 p (by omega) with e | ⟨v, hv, e⟩
      · exact Or.inl e
      · exact Or.inr ⟨v, by omega, e⟩
  · show (if T ≤ p then 0 else S 8 p) = 0 ∨ (if T ≤ p then 0 else S 8 p) = nI 1
    by_cases q : T ≤ p
    · rw [if_pos q]
      exact Or.inl rfl
    · rw [if_neg q]
      exact w8 p (by omega)
  · show B_bit (if T ≤ p then nI 1 <<< (nI (a.2.2.2 p).1 &&& 31) else S 9 p) (B_n (if T ≤ p then nI (a.2.2.2 p).1 else S 6 p)) = true
    by_cases q : T ≤ p
    · rw [if_pos q, if_pos q]
      obtain ⟨x1, x2, x3⟩ := o6 p q hp
      rw [B_n_nI (by omega), B_bit_sh (by omega) (by omega)]
      exact decide_eq_true rfl
    · rw [if_neg q, if_neg q]
      exact w9 p (by omega)
/-- the end of a house: what stands then -/
theorem H_fin (I : I_h h P T K Y i n S ev) (r : I_row h) (F : B_fr (E_H P T) h h2) (W2 : R_w P2 T2 K Y S2) (hP : P ≤ P2) (hT : T ≤ T2) (e1 : h2 3 10 = nI P2) (e2 : h2 3 11 = nI T2) (e3 : h2 51 4 = nI P2) (e4 : h2 51 6 = nI T2) (e5 : h2 1 1 = 0) (e6 : h2 51 11 = 0) (so : (∀ p, p < P → S2 0 p = S 0 p ∧ S2 1 p = S 1 p ∧ S2 2 p = S 2 p) ∧ (∀ t, t < T → (S2 3 t = S 3 t ∧ S2 4 t = S 4 t ∧ S2 5 t = S 5 t ∧ S2 6 t = S 6 t) ∧ S2 7 t = S 7 t ∧ S2 8 t = S 8 t ∧ S2 9 t = S 9 t) ∧ ∀ k, S2 10 k = S 10 k)
    (cp : ∀ p, P ≤ p → p < P2 → h2 4 p = S2 0 p ∧ h2 5 p = S2 1 p ∧ h2 6 p = S2 2 p) (ct : ∀ t, T ≤ t → t < T2 → (h2 7 t = S2 3 t ∧ h2 8 t = S2 4 t ∧ h2 9 t = S2 5 t ∧ h2 10 t = S2 6 t) ∧ h2 11 t = S2 7 t ∧ h2 12 t = S2 8 t ∧ h2 13 t = S2 9 t)
    (mp : ∀ p, P ≤ p → p < P2 → h2 54 p = S2 0 p ∧ h2 52 p = S2 1 p ∧ h2 52 (6 + p) = S2 2 p) (mt : ∀ t, T ≤ t → t < T2 → (h2 55 t = S2 3 t ∧ h2 56 t = S2 5 t ∧ h2 57 t = S2 7 t) ∧ h2 52 (12 + t) = S2 4 t ∧ h2 52 (22 + t) = S2 8 t ∧ h2 52 (32 + t) = S2 6 t ∧ h2 52 (42 + t) = S2 9 t)
    (U : I_und h2 P2 T2 K) (Kp : I_kep h2 P2 T2 K (i + 5)) : Inv (i + 5) h2 := by
  obtain ⟨R, M, W, X, V, E, L⟩ := I
  have h6 := W.1
  have h10 := W.2.1
  obtain ⟨s1, s2, s3⟩ := so
  obtain ⟨q0, q1, q2, q3, q4, q5, q6, q7, q8, q9, q10, q11, q12, q13, q14⟩ := R
  obtain ⟨⟨m0, m1, m2, m3, m4, m5, m6, m7, m8⟩, n1, n2, n4, n8, n6, n9⟩ := M
  have fp : ∀ p, p < P → Nat.ble P p = false := fun p hp => B_ble_f hp
  have ft : ∀ p, p < T → Nat.ble T p = false := fun p hp => B_ble_f hp
  have cP : ∀ p, p < P2 → h2 4 p = S2 0 p ∧ h2 5 p = S2 1 p ∧ h2 6 p = S2 2 p := fun p hp => by
    by_cases q : P ≤ p
    · exact cp p q hp
    · have q' : p < P := by omega
      obtain ⟨x1, x2, x3⟩ := s1 p q'
      exact ⟨by rw [F 4 p (fp p q'), x1]; exact q4 p q', by rw [F 5 p (fp p q'), x2]; exact q5 p q', by rw [F 6 p (fp p q'), x3]; exact q6 p q'⟩
  have cT : ∀ t, t < T2 → (h2 7 t = S2 3 t ∧ h2 8 t = S2 4 t ∧ h2 9 t = S2 5 t ∧ h2 10 t = S2 6 t) ∧ h2 11 t = S2 7 t ∧ h2 12 t = S2 8 t ∧ h2 13 t = S2 9 t := fun p hp => by
    by_cases q : T ≤ p
    · exact ct p q hp
    · have q' : p < T := by omega
      obtain ⟨⟨x1, x2, x3, x4⟩, x5, x6, x7⟩ := s2 p q'
      exact ⟨⟨by rw [F 7 p (ft p q'), x1]; exact q7 p q', by rw [F 8 p (ft p q'), x2]; exact q8 p q', by rw [F 9 p (ft p q'), x3]; exact q9 p q', by rw [F 10 p (ft p q'), x4]; exact q10 p q'⟩, by rw [F 11 p (ft p q'), x5]; exact q11 p q', by rw [F 12 p (ft p q'), x6]; exact q12 p q', by rw [F 13 p (ft p q'), x7]; exact q13 p q'⟩
  have mP : ∀ p, p < P2 → h2 54 p = S2 0 p ∧ h2 52 p = S2 1 p ∧ h2 52 (6 + p) = S2 2 p := fun p hp => by
    by_cases q : P ≤ p
    · exact mp p q hp
    · have q' : p < P := by omega
      obtain ⟨x1, x2, x3⟩ := s1 p q'
      exact ⟨by rw [F 54 p (fp p q'), x1]; exact m4 p q', by rw [F 52 p (E_H_52p h6 q').1, x2]; exact n1 p q', by rw [F 52 _ (E_H_52p h6 q').2, x3]; exact n2 p q'⟩
  have mT : ∀ t, t < T2 → (h2 55 t = S2 3 t ∧ h2 56 t = S2 5 t ∧ h2 57 t = S2 7 t) ∧ h2 52 (12 + t) = S2 4 t ∧ h2 52 (22 + t) = S2 8 t ∧ h2 52 (32 + t) = S2 6 t ∧ h2 52 (42 + t) = S2 9 t := fun p hp => by
    by_cases q : T ≤ p
    · exact mt p q hp
    · have q' : p < T := by omega
      obtain ⟨⟨x1, x2, x3, x4⟩, x5, x6, x7⟩ := s2 p q'
      obtain ⟨⟨z1, z2⟩, z3, z4⟩ := E_H_52t (P := P) h10 q'
      exact ⟨⟨by rw [F 55 p (ft p q'), x1]; exact m5 p q', by rw [F 56 p (ft p q'), x3]; exact m6 p q', by rw [F 57 p (ft p q'), x5]; exact m7 p q'⟩, by rw [F 52 _ z1, x2]; exact n4 p q', by rw [F 52 _ z2, x6]; exact n8 p q', by rw [F 52 _ z3, x4]; exact n6 p q', by rw [F 52 _ z4, x7]; exact n9 p q'⟩
  refine ⟨P2, T2, K, Y, 0, S2, ev, ⟨⟨e1, e2, by rw [F 14 2 rfl, q2], by rw [F 14 3 rfl, q3], fun p hp => (cP p hp).1, fun p hp => (cP p hp).2.1, fun p hp => (cP p hp).2.2, fun p hp => (cT p hp).1.1, fun p hp => (cT p hp).1.2.1, fun p hp => (cT p hp).1.2.2.1, fun p hp => (cT p hp).1.2.2.2, fun p hp => (cT p hp).2.1, fun p hp => (cT p hp).2.2.1, fun p hp => (cT p hp).2.2.2, fun k hk => by rw [F 15 k rfl, s3 k]; exact q14 k hk⟩, ⟨⟨e3, e4, by rw [F 51 2 rfl, m2], by rw [F 51 1 rfl, m3], fun p hp => (mP p hp).1, fun p hp => (mT p hp).1.1, fun p hp => (mT p hp).1.2.1, fun p hp => (mT p hp).1.2.2, fun k hk => by rw [F 53 k rfl, s3 k]; exact m8 k hk⟩, fun p hp => (mP p hp).2.1, fun p hp => (mP p hp).2.2, fun p hp => (mT p hp).2.1, fun p hp => (mT p hp).2.2.1, fun p hp => (mT p hp).2.2.2.1, fun p hp => (mT p hp).2.2.2.2⟩, W2, ⟨by omega, by rw [e5, nI_0], by rw [e6, nI_0], fun k hk => absurd hk (by omega)⟩, U, Kp, ?_⟩, r.sm (F 45 1 rfl) (F.row 46 (fun _ => rfl)) (F 51 13 rfl) (F.row 59 (fun _ => rfl))⟩
  unfold I_rul at *
  rw [F 17 4 rfl, F.row 18 (fun _ => rfl), F 51 26 rfl, F.row 63 (fun _ => rfl)]
  exact L
/-- nothing of it came -/
theorem H_no (I : I_h h P T K Y i n S ev) (r : I_row h) (F : B_fr (E_H P T) h h2) (e1 : h2 3 10 = h 3 10) (e2 : h2 3 11 = h 3 11) (e3 : h2 51 4 = h 51 4) (e4 : h2 51 6 = h 51 6) (e5 : h2 1 1 = 0) (e6 : h2 51 11 = 0) (u1 : h2 41 2 = h 41 2) (u3 : h2 51 35 = h 51 35) (k1 : h2 51 60 = h 51 60) (k2 : h2 41 1 = h 41 1) : Inv (i + 5) h2 := by
  obtain ⟨R, M, W, X, V, E, L⟩ := id I
  refine H_fin I r F W (Nat.le_refl _) (Nat.le_refl _) (by rw [e1]; exact R.1) (by rw [e2]; exact R.2.1) (by rw [e3]; exact M.1.1) (by rw [e4]; exact M.1.2.1) e5 e6 ⟨fun p hp => ⟨rfl, rfl, rfl⟩, fun p hp => ⟨⟨rfl, rfl, rfl, rfl⟩, rfl, rfl, rfl⟩, fun k => rfl⟩ (fun p h1 h2 => absurd h1 (by omega)) (fun p h1 h2 => absurd h1 (by omega)) (fun p h1 h2 => absurd h1 (by omega)) (fun p h1 h2 => absurd h1 (by omega)) ?_ (I_kep.up ?_ (Nat.le_add_right i 5))
  · unfold I_und at *
    rw [u1, F 41 3 rfl, u3, F.row 42 (fun _ => rfl), F.row 66 (fun _ => rfl)]
    exact V
  · unfold I_kep at *
    rw [k1, k2, F.row 80 (fun _ => rfl), F.row 81 (fun _ => rfl), F.row 42 (fun _ => rfl), F.row 79 (fun _ => rfl)]
    exact E
theorem B_house (hI : Inv i h) : ∃ r h1 h2, wu_house h = some (r, h1) ∧ mo_house h1 = some (r, h2) ∧ Inv (i + 5) h2 := by
  obtain ⟨P, T, K, Y, n, S, ev, I, r⟩ := hI
  obtain ⟨R, M, W, X, V, E, L⟩ := id I
  have h6 := W.1
  have h10 := W.2.1
  obtain ⟨sg1, sg2, sg3⟩ := X.sg
  have hn := X.1
  have ecut : ∀ hh : pH, hh 1 1 = nI n → tx_cut (px_c 0) hh = some (nI 1, px_w hh 1 1 0) := fun hh e => by
    unfold tx_cut
    rw [bc_0, if_neg (by decide), e, if_pos (nI_pos' (by omega)), bc_1, B_bz1]
  have hmo : ∀ hh : pH, (∀ a, 51 ≤ a → hh a = h a) → mo_house hh = mo_house_24 (M_bg hh n 76) := fun hh e => by
    have e76 : px_c 76 = nI 76 := bc_76
    have := mo_begin_s (h := hh) (n := n) (most := 76) (by rw [e 51 (by omega)]; exact X.2.2.1)
    unfold mo_house
    rw [e76, bc_0]
    show px_bind (mo_begin 58 ((B_t0 hh) 51 11) (nI 76) (B_t0 hh)) _ = _
    rw [bc_0] at this
    cases hb : mo_begin 58 ((B_t0 hh) 51 11) (nI 76) (B_t0 hh) with
    | none =>
      rw [hb] at this
      cases this
    | some x =>
      rw [hb] at this
      have h2 : px_w x.2 51 11 0 = M_bg hh n 76 := congrArg Prod.snd (Option.some.inj this)
      show mo_house_24 (px_w x.2 51 11 0) = _
      rw [h2]
  have hbg : ∀ hh : pH, ∀ k, k ≠ 11 → k ≠ 14 → k ≠ 15 → k ≠ 16 → k ≠ 17 → k ≠ 18 → k ≠ 19 → (M_bg hh n 76) 51 k = hh 51 k := fun hh k x1 x2 x3 x4 x5 x6 x7 => by
    unfold M_bg
    rw [B_w_at, if_neg x1, B_w_at, if_neg x7, B_w_at, if_neg x6, B_w_at, if_neg x5, B_w_at, if_neg x4, B_w_at, if_neg x3, B_t0_at _ x2]
  have hb11 : ∀ hh : pH, (M_bg hh n 76) 51 11 = 0 := fun hh => B_w_same _ _ _ _
  have hb16 : ∀ hh : pH, (M_bg hh n 76) 51 16 = nI n := fun hh => by
    unfold M_bg
    rw [B_w_at, if_neg (by decide), B_w_at, if_neg (by decide), B_w_at, if_neg (by decide), B_w_at, if_neg (by decide), B_w_same]
  by_cases n0 : n = 0
  · -- nothing is told
    have hcl : wu_house h = some (0, px_w h 1 1 0) := by
      unfold wu_house hs_read wu_house_32
      rw [X.2.1, if_pos (by rw [n0, nI_0]), bc_0, B_bind, ← bc_0, ecut h X.2.1, B_bind, bc_0, if_pos (by decide)]
    have F1 : B_fr (E_H P T) h (px_w h 1 1 0) := (B_fr.refl _ h).w rfl
    have f51 : ∀ a, 51 ≤ a → (px_w h 1 1 0) a = h a := fun a ha => B_w_cell _ _ _ (by omega)
    refine ⟨0, px_w h 1 1 0, M_bg (px_w h 1 1 0) n 76, hcl, ?_, ?_⟩
    · rw [hmo _ f51]
      unfold mo_house_24
      rw [hb16, if_pos (by rw [n0, nI_0]), bc_0]
    · refine H_no I r (F1.trans M_bg_H) ?_ ?_ ?_ ?_ ?_ (hb11 _) ?_ ?_ ?_ ?_
      · rw [M_bg_row _ _ _ (by decide), B_w_cell _ _ _ (by decide)]
      · rw [M_bg_row _ _ _ (by decide), B_w_cell _ _ _ (by decide)]
      · rw [hbg _ 4 (by decide) (by decide) (by decide) (by decide) (by decide) (by decide) (by decide), B_w_cell _ _ _ (by decide)]
      · rw [hbg _ 6 (by decide) (by decide) (by decide) (by decide) (by decide) (by decide) (by decide), B_w_cell _ _ _ (by decide)]
      · rw [M_bg_row _ _ _ (by decide), B_w_same]
      · rw [M_bg_row _ _ _ (by decide), B_w_cell _ _ _ (by decide)]
      · rw [hbg _ 35 (by decide) (by decide) (by decide) (by decide) (by decide) (by decide) (by decide), B_w_cell _ _ _ (by decide)]
      · rw [hbg _ 60 (by decide) (by decide) (by decide) (by decide) (by decide) (by decide) (by decide), B_w_cell _ _ _ (by decide)]
      · rw [M_bg_row _ _ _ (by decide), B_w_cell _ _ _ (by decide)]
  · -- the class
    generalize hsgE : B_sg h = sg at *
    obtain ⟨a0, ha0⟩ : ∃ a0 : hA, a0 = (P, T, (fun _ => (0, 0)), fun _ => (0, 0, 0, 0, 0, none)) := ⟨_, rfl⟩
    have ha1 : a0.1 = P := by rw [ha0]
    have ha2 : a0.2.1 = T := by rw [ha0]
    have hok : H_ok P T a0 := ⟨by omega, by omega, by omega, by omega, fun p h1 h2 => absurd h1 (by omega), fun p h1 h2 => absurd h1 (by omega)⟩
    generalize hH4 : px_w (px_w (px_w (px_w (px_w h 3 12 (nI P)) 3 13 (nI T)) 1 2 0) 1 3 (nI (min n 76))) 1 4 (-1) = h4
    have F4 : B_fr (E_hs P T) h h4 := by
      rw [← hH4]
      exact (((((B_fr.refl _ h).w rfl).w rfl).w rfl).w rfl).w rfl
    have C0 : C_hl h h4 P T n (min n 76) 0 sg a0 := by
      refine ⟨⟨?_, ?_, ?_, fun j hj => ?_⟩, ?_, ?_, fun p h1 h2 => absurd h1 (by omega), fun p h1 h2 => absurd h1 (by omega), F4⟩
      · rw [F4 1 1 rfl]
        exact X.2.1
      · rw [← hH4, B_w_at, if_neg (by decide), B_w_at, if_neg (by decide), B_w_same, nI_0]
      · rw [← hH4, B_w_at, if_neg (by decide), B_w_same]
      · rw [F4.row 2 (fun _ => rfl)]
        exact sg1 j hj
      · rw [← hH4, B_w_cell _ _ _ (by decide), B_w_cell _ _ _ (by decide), B_w_cell _ _ _ (by decide), B_w_at, if_neg (by decide), B_w_same, ha1]
      · rw [← hH4, B_w_cell _ _ _ (by decide), B_w_cell _ _ _ (by decide), B_w_cell _ _ _ (by decide), B_w_same, ha2]
    have hcl : hs_read h = hs_read_33 px_F (nI 1) h4 := by
      have e76 : px_c 76 = nI 76 := bc_76
      unfold hs_read tx_open
      rw [X.2.1, if_neg (nI_ne0 (by omega) (by omega)), e76, bc_0, bc_m1, bc_1]
      dsimp only
      rw [B_bind, R.1, B_w_at, if_neg (by decide), R.2.1, B_w_at, if_neg (by decide), B_w_cell _ _ _ (by decide), B_w_cell _ _ _ (by decide), X.2.1, px_min_nI (by omega) (by omega), hH4]
    obtain ⟨c1, c2⟩ := hs_read_33_s (Nat.min_le_left n 76) hn sg2 17 1 0 px_F a0 h4 hok (by omega) (by omega) (px_F_lt (by omega)) (by omega) C0
    -- the reference
    have hr : ∀ hh : pH, (∀ a, 51 ≤ a → hh a = h a) → ∃ hb, mo_house hh = mo_house_45 px_F (nI 1) hb ∧ M_hl hb hb P T n 76 0 sg a0 ∧ B_fr (E_H P T) hh hb ∧ (∀ k, k ≠ 11 → k ≠ 14 → k ≠ 15 → k ≠ 16 → k ≠ 17 → k ≠ 18 → k ≠ 19 → k ≠ 23 → k ≠ 24 → hb 51 k = hh 51 k) ∧ (∀ a, a ≠ 51 → hb a = hh a) ∧ hb 51 11 = 0 := fun hh e => by
      have F0 : B_fr (E_H P T) hh (M_bg hh n 76) := M_bg_H
      have MR := M_bg_rd (h := hh) (n := n) (sg := sg) (most := 76) (fun j hj => by rw [e 58 (by decide)]; exact sg3 j hj)
      refine ⟨px_w (px_w (M_bg hh n 76) 51 23 0) 51 24 0, ?_, ⟨?_, ?_, ?_, ?_, ?_, fun j hj => absurd hj (by omega), fun j hj => absurd hj (by omega), B_fr.refl _ _⟩, (F0.w rfl).w rfl, fun k x1 x2 x3 x4 x5 x6 x7 x8 x9 => ?_, fun a ha => ?_, ?_⟩
      · rw [hmo hh e]
        unfold mo_house_24 mo_house_43
        rw [hb16, if_neg (nI_ne0 (by omega) (by omega)), bc_0, bc_1]
      · exact MR.cell (fun j hj => by rw [B_w_at, if_neg (by omega), B_w_at, if_neg (by omega)]) (by rw [B_w_cell _ _ _ (by decide), B_w_cell _ _ _ (by decide)])
      · rw [B_w_at, if_neg (by decide), B_w_at, if_neg (by decide), hbg _ 4 (by decide) (by decide) (by decide) (by decide) (by decide) (by decide) (by decide), e 51 (by omega)]
        exact M.1.1
      · rw [B_w_at, if_neg (by decide), B_w_at, if_neg (by decide), hbg _ 6 (by decide) (by decide) (by decide) (by decide) (by decide) (by decide) (by decide), e 51 (by omega)]
        exact M.1.2.1
      · rw [B_w_at, if_neg (by decide), B_w_same, ha1, Nat.sub_self, nI_0]
      · rw [B_w_same, ha2, Nat.sub_self, nI_0]
      · rw [B_w_at, if_neg x9, B_w_at, if_neg x8, hbg _ k x1 x2 x3 x4 x5 x6 x7]
      · rw [B_w_cell _ _ _ ha, B_w_cell _ _ _ ha, M_bg_row _ _ _ ha]
      · rw [B_w_at, if_neg (by decide), B_w_at, if_neg (by decide), hb11]
    cases hf : (S_hl sg n (min n 76) 17 1 0 a0).2.2 with
    | some f =>
      obtain ⟨h', x1, x2⟩ := c1 f hf
      have F1 : B_fr (E_H P T) h (px_w h' 1 1 0) := (x2.mono E_hs_H).w rfl
      have f51 : ∀ a, 51 ≤ a → (px_w h' 1 1 0) a = h a := fun a ha => by
        rw [B_w_cell _ _ _ (by omega)]
        exact x2.row a (fun k => by
          unfold E_hs
          split
          all_goals (first | rfl | (exfalso; omega)))
      obtain ⟨hb, y1, y2, y3, y4, y5, y6⟩ := hr _ f51
      obtain ⟨z1, -⟩ := mo_house_45_s (h0 := hb) (P := P) (T := T) hn (by omega) sg2 17 1 0 px_F a0 hb hok (by omega) (px_F_lt (by omega)) (by omega) y2
      obtain ⟨h7, w1, w2⟩ := z1 f hf
      have hle : ((-1 : Int32) - nI f ≤ 0) := by
        have hfl := S_hl_f 17 1 0 a0 hok (by omega) hf
        have hd : ∀ f, f < 81 → ((-1 : Int32) - nI f ≤ 0) := by decide
        exact hd f (by omega)
      refine ⟨-1 - nI f, px_w h' 1 1 0, h7, ?_, by rw [y1, w1], H_no I r ((F1.trans y3).trans (w2.mono E_mh_H)) ?_ ?_ ?_ ?_ ?_ ?_ ?_ ?_ ?_ ?_⟩
      · unfold wu_house wu_house_32
        rw [hcl, x1, B_bind, ecut h' (by rw [x2 1 1 rfl]; exact X.2.1), B_bind, if_pos hle]
      · rw [w2 3 10 rfl, y5 3 (by decide), B_w_cell _ _ _ (by decide), x2 3 10 rfl]
      · rw [w2 3 11 rfl, y5 3 (by decide), B_w_cell _ _ _ (by decide), x2 3 11 rfl]
      · rw [w2 51 4 rfl, y4 4 (by decide) (by decide) (by decide) (by decide) (by decide) (by decide) (by decide) (by decide) (by decide), f51 51 (by decide)]
      · rw [w2 51 6 rfl, y4 6 (by decide) (by decide) (by decide) (by decide) (by decide) (by decide) (by decide) (by decide) (by decide), f51 51 (by decide)]
      · rw [w2 1 1 rfl, y5 1 (by decide), B_w_same]
      · rw [w2 51 11 rfl, y6]
      · rw [w2 41 2 rfl, y5 41 (by decide), B_w_cell _ _ _ (by decide), x2 41 2 rfl]
      · rw [w2 51 35 rfl, y4 35 (by decide) (by decide) (by decide) (by decide) (by decide) (by decide) (by decide) (by decide) (by decide), f51 51 (by decide)]
      · rw [w2 51 60 rfl, y4 60 (by decide) (by decide) (by decide) (by decide) (by decide) (by decide) (by decide) (by decide) (by decide), f51 51 (by decide)]
      · rw [w2 41 1 rfl, y5 41 (by decide), B_w_cell _ _ _ (by decide), x2 41 1 rfl]
    | none =>
      obtain ⟨h', k', x0, x1⟩ := c2 hf
      obtain ⟨g1, g2, g3⟩ := S_hl_ok 17 1 0 a0 hok (by omega) hf
      rw [ha1, ha2] at g2
      have hz2 : ∀ hb, M_hl hb hb P T n 76 0 sg a0 → ∃ h' k', M_hl hb h' P T n 76 k' sg (S_hl sg n (min n 76) 17 1 0 a0).1 ∧ mo_house_45 px_F (nI 1) hb = mo_house_105 px_F (nI 0) h' := fun hb y2 => (mo_house_45_s (h0 := hb) (P := P) (T := T) hn (by omega) sg2 17 1 0 px_F a0 hb hok (by omega) (px_F_lt (by omega)) (by omega) y2).2 hf
      generalize S_hl sg n (min n 76) 17 1 0 a0 = Z at *
      obtain ⟨C1, e12, e13, cp, ct, F⟩ := x0
      obtain ⟨o1, o2, o3, o4, o5, o6⟩ := id g1
      generalize hH1 : px_w (px_w (px_w (px_w (px_w h' 3 10 (nI Z.1.1)) 3 11 (nI Z.1.2.1)) 1 1 0) 41 2 0) 41 1 0 = h1
      have k1 : ∀ a, a ≠ 1 → a ≠ 3 → a ≠ 41 → h1 a = h' a := fun a q1 q3 q4 => by rw [← hH1, B_w_cell _ _ _ q4, B_w_cell _ _ _ q4, B_w_cell _ _ _ q1, B_w_cell _ _ _ q3, B_w_cell _ _ _ q3]
      have F1 : B_fr (E_H P T) h h1 := by
        rw [← hH1]
        exact ((((((F.mono E_hs_H).w rfl).w rfl).w rfl).w rfl).w rfl)
      have f51 : ∀ a, 51 ≤ a → h1 a = h a := fun a ha => by
        rw [k1 a (by omega) (by omega) (by omega)]
        exact F.row a (fun k => by
          unfold E_hs
          split
          all_goals (first | rfl | (exfalso; omega)))
      obtain ⟨hb, y1, y2, y3, y4, y5, y6⟩ := hr h1 f51
      obtain ⟨h7, k7, ⟨M7, m4, m6, m23, m24, mp, mt, F7⟩, w1⟩ := hz2 hb y2
      obtain ⟨h8, a1, a2, a3, a4⟩ := mo_house_105_s (P := P) (Q := Z.1.1 - P) (v := Z.1.2.2.1) (by omega) (Z.1.1 - P) 0 px_F h7 (by omega) (px_F_lt (by omega)) m23 m4 mp
      obtain ⟨h9, b1, b2, b3, b4, b5, b6⟩ := mo_house_180_s (T := T) (Q := Z.1.2.1 - T) (R := Z.1.1 - P) (v := Z.1.2.2.2) (by omega) (Z.1.2.1 - T) 0 px_F h8 (by omega) (px_F_lt (by omega)) (by rw [a4 51 24 rfl]; exact m24) (by rw [a4 51 23 rfl]; exact m23) (by omega) (by rw [a4 51 6 rfl]; exact m6) (fun i hi => by
        have := mt i hi
        unfold M_hr at *
        rw [a4.row 62 (fun _ => rfl)]
        exact this)
      have FF : B_fr (E_H P T) h h9 := ((((F1.trans y3).trans (F7.mono E_mh_H)).trans (a4.mono E_mip_H)).trans (b6.mono E_mit_H))
      have tr : ∀ a, a < 51 → h9 a = h1 a := fun a ha => by
        rw [b6.row a (fun k => by
          unfold E_mit
          split
          all_goals (first | rfl | (exfalso; omega))), a4.row a (fun k => by
          unfold E_mip
          split
          all_goals (first | rfl | (exfalso; omega))), F7.row a (fun k => by
          unfold E_mh
          split
          all_goals (first | rfl | (exfalso; omega))), y5 a (by omega)]
      have t3 : h9 3 10 = nI Z.1.1 ∧ h9 3 11 = nI Z.1.2.1 := by
        rw [tr 3 (by decide), ← hH1, B_w_cell _ _ _ (by decide), B_w_cell _ _ _ (by decide), B_w_cell _ _ _ (by decide), B_w_at, if_neg (by decide), B_w_same, B_w_same]
        exact ⟨rfl, rfl⟩
      have t41 : h9 41 1 = 0 ∧ h9 41 2 = 0 ∧ h9 41 3 = h 41 3 := by
        rw [tr 41 (by decide), ← hH1, B_w_same, B_w_at, if_neg (by decide), B_w_same, B_w_at, if_neg (by decide), B_w_at, if_neg (by decide), B_w_cell _ _ _ (by decide), B_w_cell _ _ _ (by decide), B_w_cell _ _ _ (by decide), F 41 3 rfl]
        exact ⟨rfl, rfl, rfl⟩
      have t1 : h9 1 1 = 0 := by
        rw [tr 1 (by decide), ← hH1, B_w_cell _ _ _ (by decide), B_w_cell _ _ _ (by decide), B_w_same]
      have t60 : h9 51 60 = h 51 60 + nI 1 := by
        rw [b4, a4 51 60 rfl, F7 51 60 rfl, y4 60 (by decide) (by decide) (by decide) (by decide) (by decide) (by decide) (by decide) (by decide) (by decide), f51 51 (by decide)]
      have t11 : h9 51 11 = 0 := by rw [b6 51 11 rfl, a4 51 11 rfl, F7 51 11 rfl, y6]
      have tc : ∀ a, a ≠ 1 → a ≠ 3 → a ≠ 41 → a < 51 → h9 a = h' a := fun a q1 q2 q3 q4 => by rw [tr a q4, k1 a q1 q2 q3]
      refine ⟨nI Z.2.1, h1, h9, ?_, ?_, H_fin (S2 := S_nh P T Z.1 S) (P2 := Z.1.1) (T2 := Z.1.2.1) I r FF (S_nh_W W g1) o1 o3 t3.1 t3.2 ?_ ?_ t1 t11 ⟨fun p hp => ?_, fun t ht => ?_, fun k => rfl⟩ (fun p h1 h2 => ?_) (fun t h1 h2 => ?_) (fun p h1 h2 => ?_) (fun t h1 h2 => ?_) ?_ ?_⟩
      · unfold wu_house wu_house_32
        rw [hcl, x1, B_bind, ecut _ (by rw [B_w_cell _ _ _ (by decide), B_w_cell _ _ _ (by decide), F 1 1 rfl]; exact X.2.1), B_bind, if_neg (fun w => by
          rw [bn_le0 (by omega)] at w
          omega)]
        unfold me_forgetAll
        rw [bc_0, ← hH1]
        rfl
      · rw [y1, w1, a1, b1, show Z.1.1 - P + (Z.1.2.1 - T) = Z.2.1 by omega]
      · rw [b6 51 4 rfl, a2, show P + (Z.1.1 - P) = Z.1.1 by omega]
      · rw [b2, show T + (Z.1.2.1 - T) = Z.1.2.1 by omega]
      · exact ⟨if_neg (by omega), if_neg (by omega), if_neg (by omega)⟩
      · exact ⟨⟨if_neg (by omega), if_neg (by omega), if_neg (by omega), if_neg (by omega)⟩, if_neg (by omega), if_neg (by omega), if_neg (by omega)⟩
      · obtain ⟨v1, v2, v3⟩ := cp p h1 h2
        rw [tc 4 (by decide) (by decide) (by decide) (by decide), tc 5 (by decide) (by decide) (by decide) (by decide), tc 6 (by decide) (by decide) (by decide) (by decide), v1, v2, v3]
        exact ⟨(if_pos h1).symm, (if_pos h1).symm, (if_pos h1).symm⟩
      · obtain ⟨v1, v2, v3, v4, v5, v6, v7⟩ := ct t h1 h2
        rw [tc 7 (by decide) (by decide) (by decide) (by decide), tc 8 (by decide) (by decide) (by decide) (by decide), tc 9 (by decide) (by decide) (by decide) (by decide), tc 10 (by decide) (by decide) (by decide) (by decide), tc 11 (by decide) (by decide) (by decide) (by decide), tc 12 (by decide) (by decide) (by decide) (by decide), tc 13 (by decide) (by decide) (by decide) (by decide), v1, v2, v3, v4, v5, v6, v7]
        exact ⟨⟨(if_pos h1).symm, (if_pos h1).symm, (if_pos h1).symm, (if_pos h1).symm⟩, (if_pos h1).symm, (if_pos h1).symm, (if_pos h1).symm⟩
      · obtain ⟨v1, v2, v3⟩ := a3 p (by omega) (by omega)
        have f1 : E_mit (T + 0) 52 p = false := E_mit_52f (by omega)
        have f2 : E_mit (T + 0) 52 (6 + p) = false := E_mit_52f (by omega)
        rw [b6 54 p rfl, b6 52 p f1, b6 52 _ f2, v1, v2, v3]
        exact ⟨(if_pos h1).symm, (if_pos h1).symm, (if_pos h1).symm⟩
      · obtain ⟨v1, v2, v3, v4, v5, v6, v7⟩ := b5 t (by omega) (by omega)
        rw [v1, v2, v3, v4, v5, v6, v7]
        exact ⟨⟨(if_pos h1).symm, (if_pos h1).symm, (if_pos h1).symm⟩, (if_pos h1).symm, (if_pos h1).symm, (if_pos h1).symm, (if_pos h1).symm⟩
      · obtain ⟨U, s, u1, u2, u3, u4, u5, u6⟩ := V
        exact ⟨0, s, by omega, u2, by rw [t41.2.1, nI_0], by rw [t41.2.2, u4], by rw [b3, nI_0], fun j hj => absurd hj (by omega)⟩
      · obtain ⟨c, u1, u2, u3⟩ := E
        refine ⟨c + 1, by omega, by rw [t60, u2, nI_add], fun q hq => ?_⟩
        obtain ⟨u4, u5⟩ := u3 q hq
        rw [t41.1, B_bit_0, FF.row 80 (fun _ => rfl), FF.row 81 (fun _ => rfl)]
        refine ⟨u4, ?_⟩
        rw [if_neg (by decide)]
        by_cases w : B_bit (h 41 1) q = true
        · rw [if_pos w] at u5
          exact Or.inr ⟨c, by omega, u5.2.1⟩
        · rw [if_neg w] at u5
          rcases u5 with u5 | ⟨d, u6, u7⟩
          · exact Or.inl u5
          · exact Or.inr ⟨d, by omega, u7⟩
end HOUSECALL
