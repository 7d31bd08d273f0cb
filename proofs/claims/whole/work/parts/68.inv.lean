/-! Layer B: the invariant -/
/-- what is kept of a state, in a row of the class's from b, and in one of the reference's from b -/
def Q_c (f : Nat → Int32) (b P T : Nat) (S : pH) : Prop := (∀ p, p < P → f (b + 2 * p) = S 1 p) ∧ (∀ p, p < P → f (b + 2 * p + 1) = S 2 p) ∧ (∀ t, t < T → f (b + 12 + 4 * t) = S 4 t) ∧ (∀ t, t < T → f (b + 12 + 4 * t + 1) = S 8 t) ∧ (∀ t, t < T → f (b + 12 + 4 * t + 2) = S 6 t) ∧ (∀ t, t < T → f (b + 12 + 4 * t + 3) = S 9 t)
def Q_m (f : Nat → Int32) (b P T : Nat) (S : pH) : Prop := (∀ p, p < P → f (b + p) = S 1 p) ∧ (∀ p, p < P → f (b + 6 + p) = S 2 p) ∧ (∀ t, t < T → f (b + 12 + t) = S 4 t) ∧ (∀ t, t < T → f (b + 22 + t) = S 8 t) ∧ (∀ t, t < T → f (b + 32 + t) = S 6 t) ∧ (∀ t, t < T → f (b + 42 + t) = S 9 t)
def R_wm (P T K : Nat) (S : pH) : Prop := (∀ p, p < P → B_lt (S 1 p) (2 + K)) ∧ (∀ p, p < P → B_lt (S 2 p) 100) ∧ (∀ t, t < T → B_lt (S 4 t) 41) ∧ (∀ t, t < T → B_lt (S 6 t) P) ∧ (∀ t, t < T → S 8 t = 0 ∨ S 8 t = nI 1) ∧ (∀ t, t < T → B_bit (S 9 t) (B_n (S 6 t)) = true)
/-- the state with what changes from another one -/
def B_mix (S Z : pH) : pH := fun i k => match i with
  | 1 => Z 1 k
  | 2 => Z 2 k
  | 4 => Z 4 k
  | 6 => Z 6 k
  | 8 => Z 8 k
  | 9 => Z 9 k
  | i => S i k
theorem R_w_wm {P T K Y : Nat} {S : pH} (W : R_w P T K Y S) : R_wm P T K S := by
  obtain ⟨h6, h10, h5, hY2, hY60, w0, w1, w2, w4, w6, w7, w8, w9, w10, w11⟩ := W
  exact ⟨w1, w2, w4, w6, w8, w9⟩
theorem R_w_mix {P T K Y : Nat} {S Z : pH} (W : R_w P T K Y S) (V : R_wm P T K Z) : R_w P T K Y (B_mix S Z) := by
  obtain ⟨h6, h10, h5, hY2, hY60, w0, w1, w2, w4, w6, w7, w8, w9, w10, w11⟩ := W
  obtain ⟨v1, v2, v4, v6, v8, v9⟩ := V
  exact ⟨h6, h10, h5, hY2, hY60, w0, v1, v2, v4, v6, w7, v8, v9, w10, w11⟩
/-- the text: n signs -/
def B_byte (c : Nat) : Int32 := if c < 128 then nI c else nI c - nI 256
def I_txt (h : pH) (n : Nat) : Prop := n ≤ 80 ∧ h 1 1 = nI n ∧ h 51 11 = nI n ∧ ∀ k, k < n → ∃ c, c < 256 ∧ h 2 k = nI c ∧ h 58 k = B_byte c
def I_row (h : pH) : Prop := ∃ R, R ≤ 10 ∧ h 45 1 = nI R ∧ h 51 13 = nI R ∧ ∀ k, k < R → h 46 k = h 59 k
def I_und (h : pH) (P T K : Nat) : Prop := ∃ U s, U ≤ 12 ∧ s < 13 ∧ h 41 2 = nI U ∧ h 41 3 = nI s ∧ h 51 35 = nI U ∧ ∀ j, j < U → ∃ Z, R_wm P T K Z ∧ Q_c (h 42) (52 * ((s + 13 - U + j) % 13)) P T Z ∧ Q_m (h 66) (52 * j) P T Z
def I_kep (h : pH) (P T K i : Nat) : Prop := ∃ c, c ≤ i ∧ h 51 60 = nI c ∧ ∀ q, q < 2 → (h 80 q = 0 ∨ h 80 q = nI 1) ∧ (if B_bit (h 41 1) q = true then h 80 q = nI 1 ∧ h 81 q = nI c ∧ ∃ Z, R_wm P T K Z ∧ Q_c (h 42) (52 * (13 + q)) P T Z ∧ Q_m (h 79) (52 * q) P T Z else h 80 q = 0 ∨ ∃ d, d < c ∧ h 81 q = nI d)
abbrev pE : Type := Int32 → Int32 → Int32 → Int32 → Int32 → Int32 → Int32 → Int32
/-- places that last, beside the row -/
def B_pls : Nat → Option (List Nat)
  | 1 => some [1]
  | 3 => some [10, 11]
  | 14 => some [2, 3]
  | 17 => some [4]
  | 51 => some [1, 2, 4, 6, 11, 26, 35, 60]
  | 2 => none
  | 4 => none
  | 5 => none
  | 6 => none
  | 7 => none
  | 8 => none
  | 9 => none
  | 10 => none
  | 11 => none
  | 12 => none
  | 13 => none
  | 15 => none
  | 18 => none
  | 41 => none
  | 42 => none
  | 52 => none
  | 53 => none
  | 54 => none
  | 55 => none
  | 56 => none
  | 57 => none
  | 58 => none
  | 63 => none
  | 66 => none
  | 79 => none
  | 80 => none
  | 81 => none
  | _ => some []
def B_p (a k : Nat) : Bool := match B_pls a with
  | none => true
  | some l => l.contains k
def B_sm (h h' : pH) : Prop := ∀ a k, B_p a k = true → h' a k = h a k
theorem B_sm.refl (h : pH) : B_sm h h := fun _ _ _ => rfl
theorem B_sm.trans {h h' h'' : pH} (x : B_sm h h') (y : B_sm h' h'') : B_sm h h'' := fun a k e => (y a k e).trans (x a k e)
theorem B_sm.w {h h' : pH} (x : B_sm h h') {a k : Nat} {v : Int32} (e : B_p a k = false) : B_sm h (px_w h' a k v) := fun b j q => by
  unfold px_w
  rw [if_neg (fun r => by rw [r.1, r.2, e] at q; cases q)]
  exact x b j q
theorem B_sm.row {h h' : pH} (x : B_sm h h') (a : Nat) (e : B_pls a = none) : h' a = h a := funext fun k => x a k (by unfold B_p; rw [e])
theorem R_c.sm {h h' : pH} {P T K Y : Nat} {S : pH} (R : R_c h P T K Y S) (x : B_sm h h') : R_c h' P T K Y S := by
  unfold R_c at *
  rw [x 3 10 rfl, x 3 11 rfl, x 14 2 rfl, x 14 3 rfl, x.row 4 rfl, x.row 5 rfl, x.row 6 rfl, x.row 7 rfl, x.row 8 rfl, x.row 9 rfl, x.row 10 rfl, x.row 11 rfl, x.row 12 rfl, x.row 13 rfl, x.row 15 rfl]
  exact R
theorem R_m.sm {h h' : pH} {P T K Y : Nat} {S : pH} (R : R_m h P T K Y S) (x : B_sm h h') : R_m h' P T K Y S := by
  unfold R_m R_k R_a at *
  rw [x 51 4 rfl, x 51 6 rfl, x 51 2 rfl, x 51 1 rfl, x.row 54 rfl, x.row 52 rfl, x.row 55 rfl, x.row 56 rfl, x.row 57 rfl, x.row 53 rfl]
  exact R
theorem I_txt.sm {h h' : pH} {n : Nat} (R : I_txt h n) (x : B_sm h h') : I_txt h' n := by
  unfold I_txt at *
  rw [x 1 1 rfl, x 51 11 rfl, x.row 2 rfl, x.row 58 rfl]
  exact R
theorem I_und.sm {h h' : pH} {P T K : Nat} (R : I_und h P T K) (x : B_sm h h') : I_und h' P T K := by
  unfold I_und at *
  rw [x 41 2 rfl, x 41 3 rfl, x 51 35 rfl, x.row 42 rfl, x.row 66 rfl]
  exact R
theorem I_kep.sm {h h' : pH} {P T K i : Nat} (R : I_kep h P T K i) (x : B_sm h h') : I_kep h' P T K i := by
  unfold I_kep at *
  rw [x 51 60 rfl, x 41 1 rfl, x.row 80 rfl, x.row 81 rfl, x.row 42 rfl, x.row 79 rfl]
  exact R
/-- what a rule's numbers mean, on both sides: ev of p, t, w, y, n, i, o -/
def E_fc : Nat → Nat → Bool := fun a k => match a with
  | 17 => [9, 10, 11].contains k
  | 20 => true
  | _ => false
def E_fm : Nat → Nat → Bool := fun a k => match a with
  | 51 => [15, 16, 17, 18, 19, 27].contains k
  | 64 => true
  | _ => false
def B_fr (p : Nat → Nat → Bool) (h h' : pH) : Prop := ∀ a k, p a k = false → h' a k = h a k
def E_c (z : Int32) (f : Nat → Int32) (ev : pE) : Prop := ∀ (h : pH), h 17 4 = z → h 18 = f → ∀ t w y, ∃ h', ru_pressure t w y h = some (ev (h 17 8) t w y (h 17 12) (h 17 13) (h 17 14), h') ∧ B_fr E_fc h h'
def E_m (z : Int32) (f : Nat → Int32) (ev : pE) : Prop := ∀ (h : pH) (a t : Nat), h 51 26 = z → h 63 = f → px_tag a = 0 → px_len a = 52 → t < 10 → ∀ (k y n : Int32), (h 57 t = -1 ∨ B_lt (h 57 t) 32) → ∃ h', mo_pressureOf a (nI t) k y n h = some (ev (h 56 t) k (h a (12 + t)) y (B_pc n) (h a (32 + t)) (if h 57 t = -1 then 0 else if B_bit n (B_n (h 57 t)) = true then nI 1 else 0), h') ∧ B_fr E_fm h h'
def I_rul (h : pH) (ev : pE) : Prop := E_c (h 17 4) (h 18) ev ∧ E_m (h 51 26) (h 63) ev
theorem I_rul.sm {h h' : pH} {ev : pE} (R : I_rul h ev) (x : B_sm h h') : I_rul h' ev := by
  unfold I_rul at *
  rw [x 17 4 rfl, x 51 26 rfl, x.row 18 rfl, x.row 63 rfl]
  exact R
def I_h (h : pH) (P T K Y i n : Nat) (S : pH) (ev : pE) : Prop := R_c h P T K Y S ∧ R_m h P T K Y S ∧ R_w P T K Y S ∧ I_txt h n ∧ I_und h P T K ∧ I_kep h P T K i ∧ I_rul h ev
def Inv (i : Nat) (h : pH) : Prop := ∃ P T K Y n S ev, I_h h P T K Y i n S ev ∧ I_row h
theorem I_h.sm {h h' : pH} {P T K Y i n : Nat} {S : pH} {ev : pE} (R : I_h h P T K Y i n S ev) (x : B_sm h h') : I_h h' P T K Y i n S ev := ⟨R.1.sm x, R.2.1.sm x, R.2.2.1, R.2.2.2.1.sm x, R.2.2.2.2.1.sm x, R.2.2.2.2.2.1.sm x, R.2.2.2.2.2.2.sm x⟩
theorem I_kep.up {h : pH} {P T K i j : Nat} (R : I_kep h P T K i) (hj : i ≤ j) : I_kep h P T K j := by
  obtain ⟨c, hc, e⟩ := R
  exact ⟨c, by omega, e⟩
theorem I_h.up {h : pH} {P T K Y i j n : Nat} {S : pH} {ev : pE} (R : I_h h P T K Y i n S ev) (hj : i ≤ j) : I_h h P T K Y j n S ev := ⟨R.1, R.2.1, R.2.2.1, R.2.2.2.1, R.2.2.2.2.1, R.2.2.2.2.2.1.up hj, R.2.2.2.2.2.2⟩
theorem Inv_up (i : Nat) (h : pH) (R : Inv i h) : Inv (i + 5) h := by
  obtain ⟨P, T, K, Y, n, S, ev, R, r⟩ := R
  exact ⟨P, T, K, Y, n, S, ev, R.up (by omega), r⟩
theorem I_row.sm {h h' : pH} (R : I_row h) (e1 : h' 45 1 = h 45 1) (e2 : h' 46 = h 46) (e3 : h' 51 13 = h 51 13) (e4 : h' 59 = h 59) : I_row h' := by
  unfold I_row at *
  rw [e1, e2, e3, e4]
  exact R
