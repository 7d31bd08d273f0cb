/-! Layer B, core: constants, comparisons, loops, bits as rows that simp can use -/
theorem B_bind (r : Int32) (h : pH) (f : Int32 → pH → pR) : px_bind (some (r, h)) f = f r h := rfl
theorem B_bind_if {c : Prop} [Decidable c] (x y : pR) (f : Int32 → pH → pR) : px_bind (if c then x else y) f = if c then px_bind x f else px_bind y f := by
  by_cases h : c
  · rw [if_pos h, if_pos h]
  · rw [if_neg h, if_neg h]
theorem B_some_if {c : Prop} [Decidable c] (a b : Int32) (h : pH) : (if c then (some (a, h) : pR) else some (b, h)) = some (if c then a else b, h) := by
  by_cases hc : c
  · rw [if_pos hc, if_pos hc]
  · rw [if_neg hc, if_neg hc]
theorem B_ift (x : pR) : px_if true x = x := rfl
theorem B_bz0 (h : pH) : px_bz 0 h = some (0, h) := rfl
theorem B_bz1 (h : pH) : px_bz (nI 1) h = some (nI 1, h) := rfl
theorem bc_0 : px_c 0 = 0 := pc_0
theorem bc_m1 : px_c (-1) = -1 := pc_m1
theorem bc_1 : px_c 1 = nI 1 := pc_n 1
theorem bc_2 : px_c 2 = nI 2 := pc_n 2
theorem bc_3 : px_c 3 = nI 3 := pc_n 3
theorem bc_4 : px_c 4 = nI 4 := pc_n 4
theorem bc_5 : px_c 5 = nI 5 := pc_n 5
theorem bc_6 : px_c 6 = nI 6 := pc_n 6
theorem bc_7 : px_c 7 = nI 7 := pc_n 7
theorem bc_8 : px_c 8 = nI 8 := pc_n 8
theorem bc_9 : px_c 9 = nI 9 := pc_n 9
theorem bc_10 : px_c 10 = nI 10 := pc_n 10
theorem bc_11 : px_c 11 = nI 11 := pc_n 11
theorem bc_12 : px_c 12 = nI 12 := pc_n 12
theorem bc_13 : px_c 13 = nI 13 := pc_n 13
theorem bc_16 : px_c 16 = nI 16 := pc_n 16
theorem bc_22 : px_c 22 = nI 22 := pc_n 22
theorem bc_24 : px_c 24 = nI 24 := pc_n 24
theorem bc_32 : px_c 32 = nI 32 := pc_n 32
theorem bc_40 : px_c 40 = nI 40 := pc_n 40
theorem bc_41 : px_c 41 = nI 41 := pc_n 41
theorem bc_42 : px_c 42 = nI 42 := pc_n 42
theorem bc_43 : px_c 43 = nI 43 := pc_n 43
theorem bc_44 : px_c 44 = nI 44 := pc_n 44
theorem bc_45 : px_c 45 = nI 45 := pc_n 45
theorem bc_47 : px_c 47 = nI 47 := pc_n 47
theorem bc_48 : px_c 48 = nI 48 := pc_n 48
theorem bc_52 : px_c 52 = nI 52 := pc_n 52
theorem bc_57 : px_c 57 = nI 57 := pc_n 57
theorem bc_58 : px_c 58 = nI 58 := pc_n 58
theorem bc_59 : px_c 59 = nI 59 := pc_n 59
theorem bc_60 : px_c 60 = nI 60 := pc_n 60
theorem bc_61 : px_c 61 = nI 61 := pc_n 61
theorem bc_62 : px_c 62 = nI 62 := pc_n 62
theorem bc_63 : px_c 63 = nI 63 := pc_n 63
theorem bc_64 : px_c 64 = nI 64 := pc_n 64
theorem bc_76 : px_c 76 = nI 76 := pc_n 76
theorem bc_80 : px_c 80 = nI 80 := pc_n 80
theorem bc_97 : px_c 97 = nI 97 := pc_n 97
theorem bc_99 : px_c 99 = nI 99 := pc_n 99
theorem bc_105 : px_c 105 = nI 105 := pc_n 105
theorem bc_106 : px_c 106 = nI 106 := pc_n 106
theorem bc_107 : px_c 107 = nI 107 := pc_n 107
theorem bc_108 : px_c 108 = nI 108 := pc_n 108
theorem bc_109 : px_c 109 = nI 109 := pc_n 109
theorem bc_110 : px_c 110 = nI 110 := pc_n 110
theorem bc_111 : px_c 111 = nI 111 := pc_n 111
theorem bc_112 : px_c 112 = nI 112 := pc_n 112
theorem bc_113 : px_c 113 = nI 113 := pc_n 113
theorem bc_114 : px_c 114 = nI 114 := pc_n 114
theorem bc_115 : px_c 115 = nI 115 := pc_n 115
theorem bc_116 : px_c 116 = nI 116 := pc_n 116
theorem bc_117 : px_c 117 = nI 117 := pc_n 117
theorem bc_118 : px_c 118 = nI 118 := pc_n 118
theorem bc_119 : px_c 119 = nI 119 := pc_n 119
theorem bc_120 : px_c 120 = nI 120 := pc_n 120
theorem bc_121 : px_c 121 = nI 121 := pc_n 121
theorem bc_122 : px_c 122 = nI 122 := pc_n 122
theorem bc_255 : px_c 255 = nI 255 := pc_n 255
theorem bc_256 : px_c 256 = nI 256 := pc_n 256
theorem bc_400 : px_c 400 = nI 400 := pc_n 400
theorem bc_572 : px_c 572 = nI 572 := pc_n 572
theorem bc_999 : px_c 999 = nI 999 := pc_n 999
theorem bc_1024 : px_c 1024 = nI 1024 := pc_n 1024
theorem bc_10000 : px_c 10000 = nI 10000 := pc_n 10000
theorem bc_m2 : px_c (-2) = -2 := (px_c_eq (-2)).trans rfl
theorem bc_m3 : px_c (-3) = -3 := (px_c_eq (-3)).trans rfl
theorem bc_m8 : px_c (-8) = -8 := (px_c_eq (-8)).trans rfl
theorem bc_m100 : px_c (-100) = -100 := (px_c_eq (-100)).trans rfl
theorem bc_m200 : px_c (-200) = -200 := (px_c_eq (-200)).trans rfl
/-- comparisons -/
theorem bn_le {a b : Nat} (ha : a < 2 ^ 31) (hb : b < 2 ^ 31) : (nI a ≤ nI b) = (a ≤ b) := propext (nI_leI ha hb)
theorem bn_lt {a b : Nat} (ha : a < 2 ^ 31) (hb : b < 2 ^ 31) : (nI a < nI b) = (a < b) := propext (nI_ltI ha hb)
theorem bn_eq {a b : Nat} (ha : a < 2 ^ 31) (hb : b < 2 ^ 31) : (nI a = nI b) = (a = b) := propext (nI_eq ha hb)
theorem bn_le0 {a : Nat} (ha : a < 2 ^ 31) : (nI a ≤ 0) = (a = 0) := propext (by
  rw [← nI_0, nI_leI ha (by omega)]
  omega)
theorem bn_0le {a : Nat} (ha : a < 2 ^ 31) : (0 ≤ nI a) = True := eq_true (nI_pos' ha)
theorem bn_lt0 {a : Nat} (ha : a < 2 ^ 31) : (nI a < 0) = False := eq_false (nI_pos ha)
theorem bn_0lt {a : Nat} (ha : a < 2 ^ 31) : (0 < nI a) = (0 < a) := propext (by
  rw [← nI_0, nI_ltI (by omega) ha])
theorem bn_eq0 {a : Nat} (ha : a < 2 ^ 31) : (nI a = 0) = (a = 0) := propext (by
  rw [← nI_0, nI_eq ha (by omega)])
theorem bn_eqm {a : Nat} (ha : a < 2 ^ 31) : (nI a = -1) = False := eq_false (fun h => by
  have h1 : (nI a).toInt = (-1 : Int32).toInt := by rw [h]
  rw [nI_toInt ha] at h1
  change (a : Int) = -1 at h1
  omega)
theorem bn_meq {a : Nat} (ha : a < 2 ^ 31) : (-1 = nI a) = False := eq_false (fun h => Eq.mp (bn_eqm ha) h.symm)
theorem bn_mlt0 : ((-1 : Int32) < 0) = True := by decide
theorem bn_0lem : ((0 : Int32) ≤ -1) = False := by decide
theorem bn_m0 : ((-1 : Int32) = 0) = False := by decide
theorem bn_mle0 : ((-1 : Int32) ≤ 0) = True := by decide
theorem bn_ltm {a : Nat} (ha : a < 2 ^ 31) : (nI a < -1) = False := eq_false (fun h => by
  rw [Int32.lt_iff_toInt_lt, nI_toInt ha] at h
  change (a : Int) < -1 at h
  omega)
theorem bn_mlt {a : Nat} (ha : a < 2 ^ 31) : (-1 < nI a) = True := eq_true (by
  rw [Int32.lt_iff_toInt_lt, nI_toInt ha]
  change -1 < (a : Int)
  omega)
theorem bn_mle {a : Nat} (ha : a < 2 ^ 31) : (-1 ≤ nI a) = True := eq_true (by
  rw [Int32.le_iff_toInt_le, nI_toInt ha]
  change -1 ≤ (a : Int)
  omega)
theorem bn_lem {a : Nat} (ha : a < 2 ^ 31) : (nI a ≤ -1) = False := eq_false (fun h => by
  rw [Int32.le_iff_toInt_le, nI_toInt ha] at h
  change (a : Int) ≤ -1 at h
  omega)
theorem bn_0 : nI 0 = 0 := nI_0
theorem bn_0eq {a : Nat} (ha : a < 2 ^ 31) : (0 = nI a) = (a = 0) := propext (by
  rw [eq_comm, bn_eq0 ha])
theorem B_01_t : B_01 true = nI 1 := rfl
theorem B_01_f : B_01 false = 0 := rfl
theorem B_01_e0 (b : Bool) : (B_01 b = 0) = (b = false) := propext B_01_0
theorem B_01_e1 (b : Bool) : (B_01 b = nI 1) = (b = true) := by cases b <;> simp [B_01, nI] 
theorem B_if01 (c : Prop) [Decidable c] : (if c then nI 1 else (0 : Int32)) = B_01 (decide c) := by
  by_cases h : c
  · rw [if_pos h, decide_eq_true h]
    rfl
  · rw [if_neg h, decide_eq_false h]
    rfl
/-- a number of a small range, as a natural one -/
def B_n (x : Int32) : Nat := x.toNatClampNeg
theorem B_n_nI {k : Nat} (h : k < 2 ^ 31) : B_n (nI k) = k := nI_clamp h
def B_in (x : Int32) (m : Nat) : Prop := x = nI (B_n x) ∧ B_n x ≤ m
theorem B_in_nI {k m : Nat} (h : k ≤ m) (hm : m < 2 ^ 31) : B_in (nI k) m := by
  unfold B_in
  rw [B_n_nI (by omega)]
  exact ⟨rfl, h⟩
theorem B_in_ex {x : Int32} {m : Nat} (h : B_in x m) : ∃ k, k ≤ m ∧ x = nI k := ⟨B_n x, h.2, h.1⟩
/-- a loop that runs from k to N, with what it carries -/
def B_fold {α : Type} (g : Nat → α → α) : Nat → Nat → α → α
  | _, 0, a => a
  | k, m + 1, a => B_fold g (k + 1) m (g k a)
theorem B_fold_eq {α : Type} {f g : Nat → α → α} : ∀ (m k : Nat) (a : α), (∀ j, k ≤ j → j < k + m → ∀ b, f j b = g j b) → B_fold f k m a = B_fold g k m a := by
  intro m
  induction m with
  | zero =>
    intro k a h
    rfl
  | succ m ih =>
    intro k a h
    show B_fold f (k + 1) m (f k a) = B_fold g (k + 1) m (g k a)
    rw [h k (Nat.le_refl _) (by omega)]
    exact ih (k + 1) _ (fun j h1 h2 => h j (by omega) (by omega))
theorem B_fold_inv {α : Type} {g : Nat → α → α} (I : Nat → α → Prop) : ∀ (m k : Nat) (a : α), I k a → (∀ j b, k ≤ j → j < k + m → I j b → I (j + 1) (g j b)) → I (k + m) (B_fold g k m a) := by
  intro m
  induction m with
  | zero =>
    intro k a h _
    exact h
  | succ m ih =>
    intro k a h hs
    have := ih (k + 1) (g k a) (hs k a (Nat.le_refl _) (by omega) h) (fun j b h1 h2 => hs j b (by omega) (by omega))
    rw [show k + (m + 1) = k + 1 + m by omega]
    exact this
theorem B_loop {α β : Type} (F : Nat → α → Nat → β) (N : Nat) (g : Nat → α → α) (res : α → β) (hs : ∀ n a k, k < N → F (n + 1) a k = F n (g k a) (k + 1)) (he : ∀ n a, F (n + 1) a N = res a) : ∀ m k n a, k + m = N → m < n → F n a k = res (B_fold g k m a) := by
  intro m
  induction m with
  | zero =>
    intro k n a hk hn
    obtain ⟨n, rfl⟩ : ∃ n', n = n' + 1 := ⟨n - 1, by omega⟩
    rw [show k = N by omega]
    exact he n a
  | succ m ih =>
    intro k n a hk hn
    obtain ⟨n, rfl⟩ : ∃ n', n = n' + 1 := ⟨n - 1, by omega⟩
    rw [hs n a k (by omega)]
    exact ih (k + 1) n (g k a) (by omega) (by omega)
theorem B_loop0 {α β : Type} (F : Nat → α → Nat → β) (N : Nat) (g : Nat → α → α) (res : α → β) (hN : N < 2097152) (hs : ∀ n a k, k < N → F (n + 1) a k = F n (g k a) (k + 1)) (he : ∀ n a, F (n + 1) a N = res a) (a : α) : F px_F a 0 = res (B_fold g 0 N a) :=
  B_loop F N g res hs he N 0 px_F a (by omega) (px_F_lt hN)
/-- with a way out: what the loop answers where it is left early -/
def B_foldE {α β : Type} (x : Nat → α → Option β) (g : Nat → α → α) (res : α → β) : Nat → Nat → α → β
  | _, 0, a => res a
  | k, m + 1, a => match x k a with
    | some b => b
    | none => B_foldE x g res (k + 1) m (g k a)
theorem B_loopE {α β : Type} (F : Nat → α → Nat → β) (N : Nat) (x : Nat → α → Option β) (g : Nat → α → α) (res : α → β) (hs : ∀ n a k, k < N → F (n + 1) a k = match x k a with
    | some b => b
    | none => F n (g k a) (k + 1)) (he : ∀ n a, F (n + 1) a N = res a) : ∀ m k n a, k + m = N → m < n → F n a k = B_foldE x g res k m a := by
  intro m
  induction m with
  | zero =>
    intro k n a hk hn
    obtain ⟨n, rfl⟩ : ∃ n', n = n' + 1 := ⟨n - 1, by omega⟩
    rw [show k = N by omega]
    exact he n a
  | succ m ih =>
    intro k n a hk hn
    obtain ⟨n, rfl⟩ : ∃ n', n = n' + 1 := ⟨n - 1, by omega⟩
    rw [hs n a k (by omega)]
    show _ = (match x k a with
    | some b => b
    | none => B_foldE x g res (k + 1) m (g k a))
    cases x k a with
    | some b => rfl
    | none => exact ih (k + 1) n (g k a) (by omega) (by omega)
/-- bits -/
theorem B_bit_lsb (x : Int32) (k : Nat) : B_bit x k = x.toBitVec.getLsbD k := by
  unfold B_bit
  rw [BitVec.getLsbD, Nat.testBit_eq_decide_div_mod_eq]
theorem B_bit_and (x y : Int32) (k : Nat) : B_bit (x &&& y) k = (B_bit x k && B_bit y k) := by
  rw [B_bit_lsb, B_bit_lsb, B_bit_lsb, Int32.toBitVec_and, BitVec.getLsbD_and]
theorem B_bit_or (x y : Int32) (k : Nat) : B_bit (x ||| y) k = (B_bit x k || B_bit y k) := by
  rw [B_bit_lsb, B_bit_lsb, B_bit_lsb, Int32.toBitVec_or, BitVec.getLsbD_or]
theorem B_bit_xor (x y : Int32) (k : Nat) : B_bit (x ^^^ y) k = (B_bit x k ^^ B_bit y k) := by
  rw [B_bit_lsb, B_bit_lsb, B_bit_lsb, Int32.toBitVec_xor, BitVec.getLsbD_xor]
theorem B_bit_m1 : ∀ k, k < 32 → B_bit (-1) k = true := by decide +kernel
theorem B_bit_0 (k : Nat) : B_bit 0 k = false := by
  rw [B_bit_lsb]
  simp
theorem B_bit_not (x : Int32) {k : Nat} (hk : k < 32) : B_bit (x ^^^ -1) k = !(B_bit x k) := by
  rw [B_bit_xor, B_bit_m1 k hk, Bool.xor_true]
theorem B_sh : ∀ p : Nat, p < 32 → ∀ k : Nat, k < 32 → B_bit (nI 1 <<< (nI p &&& 31)) k = decide (k = p) := by decide +kernel
theorem B_bit_sh {p k : Nat} (hp : p < 32) (hk : k < 32) : B_bit (nI 1 <<< (nI p &&& 31)) k = decide (k = p) := B_sh p hp k hk
theorem B_bit_big (x : Int32) {k : Nat} (hk : 32 ≤ k) : B_bit x k = false := by
  rw [B_bit_lsb]
  exact BitVec.getLsbD_of_ge _ _ hk
theorem B_ext {x y : Int32} (h : ∀ k, k < 32 → B_bit x k = B_bit y k) : x = y := by
  apply Int32.toBitVec_inj.mp
  apply BitVec.eq_of_getLsbD_eq
  intro i hi
  rw [← B_bit_lsb, ← B_bit_lsb]
  exact h i hi
/-- a set told by a test -/
def B_set (c : Nat → Bool) (n : Nat) : Int32 := B_fold (fun k a => a ||| (if c k = true then nI 1 <<< (nI k &&& 31) else 0)) 0 n 0
theorem B_set_go (c : Nat → Bool) : ∀ (m k : Nat) (a : Int32), k + m ≤ 32 → ∀ j, j < 32 → B_bit (B_fold (fun k a => a ||| (if c k = true then nI 1 <<< (nI k &&& 31) else 0)) k m a) j = (B_bit a j || (decide (k ≤ j ∧ j < k + m) && c j)) := by
  intro m
  induction m with
  | zero =>
    intro k a hk j hj
    show B_bit a j = _
    rw [decide_eq_false (by omega)]
    simp
  | succ m ih =>
    intro k a hk j hj
    show B_bit (B_fold _ (k + 1) m (a ||| (if c k = true then nI 1 <<< (nI k &&& 31) else 0))) j = _
    rw [ih (k + 1) _ (by omega) j hj, B_bit_or]
    by_cases hjk : j = k
    · subst hjk
      rw [decide_eq_false (show ¬ (j + 1 ≤ j ∧ j < j + 1 + m) by omega), decide_eq_true (show j ≤ j ∧ j < j + (m + 1) by omega)]
      by_cases hc : c j = true
      · rw [if_pos hc, B_bit_sh hj hj, hc]
        simp
      · rw [if_neg hc, B_bit_0]
        simp at hc
        rw [hc]
        simp
    · have e1 : B_bit (if c k = true then nI 1 <<< (nI k &&& 31) else 0) j = false := by
        by_cases hc : c k = true
        · rw [if_pos hc, B_bit_sh (by omega) hj, decide_eq_false hjk]
        · rw [if_neg hc, B_bit_0]
      have e2 : decide (k + 1 ≤ j ∧ j < k + 1 + m) = decide (k ≤ j ∧ j < k + (m + 1)) := decide_eq_decide.mpr (by omega)
      rw [e1, e2]
      simp
theorem B_set_bit {c : Nat → Bool} {n j : Nat} (hn : n ≤ 32) (hj : j < 32) : B_bit (B_set c n) j = (decide (j < n) && c j) := by
  unfold B_set
  have e2 : decide (0 ≤ j ∧ j < 0 + n) = decide (j < n) := decide_eq_decide.mpr (by omega)
  rw [B_set_go c n 0 0 (by omega) j hj, B_bit_0, e2]
  simp
theorem B_set_eq {c d : Nat → Bool} {n : Nat} (h : ∀ j, j < n → c j = d j) : B_set c n = B_set d n :=
  B_fold_eq n 0 0 (fun j _ h2 b => by rw [h j (by omega)])
noncomputable def B_pc (x0 : Int32) : Int32 :=
  let y0_1 := x0 - ((px_ush x0 (px_c 1)) &&& (px_k 1431655765))
  let y0_2 := (y0_1 &&& (px_k 858993459)) + ((px_ush y0_1 (px_c 2)) &&& (px_k 858993459))
  let y0_3 := (y0_2 + (px_ush y0_2 (px_c 4))) &&& (px_k 252645135)
  let y0_4 := y0_3 + (px_ush y0_3 (px_c 8))
  let y0_5 := y0_4 + (px_ush y0_4 (px_c 16))
  y0_5 &&& (px_c 63)
theorem jn_bitCount_eq (x : Int32) (h : pH) : jn_bitCount x h = some (B_pc x, h) := rfl
