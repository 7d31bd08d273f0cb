/-! The pure machine: a method's steps over the cells' contents (cell, place) ↦ Int32; nothing of the JVM is in it -/
abbrev pV : Type := Int32 ⊕ (Nat ⊕ Int64)
abbrev pH : Type := Nat → Nat → Int32
abbrev pR : Type := Option (Int32 × pH)
abbrev pC : Type := Nat → List pV → pH → pR
abbrev pL : Type := List (Option pV)
abbrev pK : Type := Nat → pL → List pV → pH → pR
def px_nth {α : Type} : List α → Nat → Option α
  | [], _ => none
  | x :: _, 0 => some x
  | _ :: l, n + 1 => px_nth l n
def px_find {α : Type} : List (Nat × α) → Nat → Option α
  | [], _ => none
  | q :: l, i => match Nat.beq q.1 i with
    | true => some q.2
    | false => px_find l i
def px_if (b : Bool) (x : pR) : pR := match b with
  | true => x
  | false => none
def px_bind (x : pR) (f : Int32 → pH → pR) : pR := match x with
  | none => none
  | some q => f q.1 q.2
/-- a constant: as it is written (nobody computes with it by chance) -/
theorem px_c_ex (v : Int) : ∃ x : Int32, x = Int32.ofInt v := ⟨_, rfl⟩
noncomputable def px_c (v : Int) : Int32 := Classical.choose (px_c_ex v)
theorem px_c_eq (v : Int) : px_c v = Int32.ofInt v := Classical.choose_spec (px_c_ex v)
theorem px_k_ex (v : Int32) : ∃ x : Int32, x = v := ⟨_, rfl⟩
noncomputable def px_k (v : Int32) : Int32 := Classical.choose (px_k_ex v)
theorem px_k_eq (v : Int32) : px_k v = v := Classical.choose_spec (px_k_ex v)
def px_w (h : pH) (a k : Nat) (v : Int32) : pH := fun a' k' => if a' = a ∧ k' = k then v else h a' k'
def px_row (a : Nat) : Nat × Nat × List (Nat × Nat) := match px_nth px_lay a with
  | some r => r
  | none => (9, 0, [])
def px_tag (a : Nat) : Nat := (px_row a).1
def px_len (a : Nat) : Nat := (px_row a).2.1
def px_rf (a k : Nat) : Option Nat := px_find (px_row a).2.2 k
/-- a place of a row of that kind -/
def px_ok (t a : Nat) (i : Int32) : Bool := Nat.beq (px_tag a) t && (decide (0 ≤ i) && Nat.blt i.toNatClampNeg (px_len a))
def px_get (a ci k : Nat) (h : pH) (kk : pV → pR) : pR := px_if (Nat.beq (px_tag a) (ci + 10) && Nat.blt k (px_len a)) (match px_rf a k with
  | none => kk (.inl (h a k))
  | some t => match Nat.beq t 1001 with
    | true => kk (.inl (h a k))
    | false => match Nat.beq t 1000 with
      | true => px_if (decide (0 ≤ h a k) && Nat.blt (h a k).toNatClampNeg px_N) (kk (.inr (.inl (h a k).toNatClampNeg)))
      | false => kk (.inr (.inl t)))
def px_put (a ci k : Nat) (v : pV) (h : pH) (kk : pH → pR) : pR := px_if (Nat.beq (px_tag a) (ci + 10) && Nat.blt k (px_len a)) (match px_rf a k with
  | none => match v with
    | .inl x => kk (px_w h a k x)
    | _ => none
  | some t => match Nat.beq t 1001 with
    | true => match v with
      | .inl x => px_if (decide (x = 0) || decide (x = 1)) (kk (px_w h a k x))
      | _ => none
    | false => match Nat.beq t 1000 with
      | true => match v with
        | .inr (.inl r) => px_if (Nat.blt r px_N && Nat.beq (px_tag r) 1) (kk (px_w h a k (nI r)))
        | _ => none
      | false => none)
def px_upd : pL → Nat → Option pV → pL
  | [], _, _ => []
  | _ :: l, 0, v => v :: l
  | x :: l, i + 1, v => x :: px_upd l i v
/-- the place ahead isn't a long's -/
def px_cs (ls : pL) (i : Nat) : Bool := Nat.blt i ls.length && (match i with
  | 0 => true
  | j + 1 => match px_nth ls j with
    | some (some (.inr (.inr _))) => false
    | _ => true)
def px_tg (pc : Nat) (off : Int) (kk : Nat → pR) : pR := match (pc : Int) + off with
  | .ofNat t => kk t
  | .negSucc _ => none
def px_i1 (st : List pV) (kk : Int32 → List pV → pR) : pR := match st with
  | .inl x :: r => kk x r
  | _ => none
def px_i2 (st : List pV) (kk : Int32 → Int32 → List pV → pR) : pR := match st with
  | .inl y :: .inl x :: r => kk x y r
  | _ => none
def px_l2 (st : List pV) (kk : Int64 → Int64 → List pV → pR) : pR := match st with
  | .inr (.inr y) :: .inr (.inr x) :: r => kk x y r
  | _ => none
def px_ld (ls : pL) (i : Nat) (kk : pV → pR) : pR := match px_nth ls i with
  | some (some v) => kk v
  | _ => none
def px_bz (x : Int32) (h : pH) : pR := px_if (decide (x = 0) || decide (x = 1)) (some (x, h))
def px_isI (v : pV) (kk : pR) : pR := match v with
  | .inl _ => kk
  | _ => none
def px_isL (v : pV) (kk : pR) : pR := match v with
  | .inr (.inr _) => kk
  | _ => none
def px_isA (v : pV) (kk : pR) : pR := match v with
  | .inr (.inl _) => kk
  | _ => none
def px_cond (o : ClassFile.Cond) (x y : Int32) (a b : pR) : pR := match o with
  | .eq => if x = y then a else b
  | .ne => if x = y then b else a
  | .lt => if x < y then a else b
  | .ge => if y ≤ x then a else b
  | .gt => if y < x then a else b
  | .le => if x ≤ y then a else b
def px_popn : Nat → List pV → Option (List pV × List pV)
  | 0, st => some ([], st)
  | n + 1, st => match st with
    | [] => none
    | v :: r => match px_popn n r with
      | none => none
      | some q => some (q.1 ++ [v], q.2)
def px_cat (v : pV) : Nat := match v with
  | .inr (.inr _) => 2
  | _ => 1
def px_low (st : List pV) : Bool := Nat.ble ((st.map px_cat).sum) 8
/-- a call of method id, static or of an object of its class -/
def px_call (C : pC) (id : Nat) (sta : Bool) (pc : Nat) (ls : pL) (st : List pV) (h : pH) (k : pK) : pR := match px_nth px_mt id with
  | none => none
  | some (_, _, _, rt, s0, np, ci) => match s0, sta with
    | true, true => match px_popn np st with
      | none => none
      | some (as, r) => px_if (px_low r) (px_bind (C id as h) (fun x h1 => k (pc + 3) ls (match rt with
        | none => r
        | some _ => .inl x :: r) h1))
    | false, false => match px_popn np st with
      | none => none
      | some (as, .inr (.inl b) :: r) => px_if (Nat.beq (px_tag b) (ci + 10) && px_low r) (px_bind (C id (.inr (.inl b) :: as) h) (fun x h1 => k (pc + 3) ls (match rt with
        | none => r
        | some _ => .inl x :: r) h1))
      | some _ => none
    | _, _ => none
def px_max (x y : Int32) : Int32 := if x < y then y else x
def px_min (x y : Int32) : Int32 := if y < x then y else x
def px_abs (x : Int32) : Int32 := if 0 ≤ x then x else 0 - x
def px_maxL (x y : Int64) : Int64 := if y < x then x else y
def px_minL (x y : Int64) : Int64 := if y < x then y else x
def px_ush (x y : Int32) : Int32 := (x.toUInt32 >>> (y.toUInt32 &&& Int32.toUInt32 31)).toInt32
def px_nb (x : Int32) : Int32 := vp_nar .byte x
def px_nc (x : Int32) : Int32 := vp_nar .char x
def px_nz (x : Int32) : Int32 := vp_nar .boolean x
def px_i2b (x : Int32) : Int32 := x.toInt8.toInt32
def px_i2s (x : Int32) : Int32 := x.toInt16.toInt32
def px_i2c (x : Int32) : Int32 := (x.toUInt32 % 65536).toInt32
noncomputable def px_lk : List (Int × Int) → Int → Int32 → (Int → pR) → pR
  | [], d, _, kk => kk d
  | q :: l, d, x, kk => if x = px_c q.1 then kk q.2 else px_lk l d x kk
noncomputable def px_ts : List Int → Int → Int → Int32 → (Int → pR) → pR
  | [], _, d, _, kk => kk d
  | o :: l, v, d, x, kk => if x = px_c v then kk o else px_ts l (v + 1) d x kk
def px_sorted : List (Int × Int) → Bool
  | [] => true
  | q :: l => decide (-2147483648 ≤ q.1) && decide (q.1 ≤ 2147483647) && px_sorted l
noncomputable def px_step (X : pX) (rt : Option FieldType) (C : pC) (i : Instr) (n pc : Nat) (ls : pL) (st : List pV) (h : pH) (k : pK) : pR :=
  match i with
  | .iconst v => px_if (Nat.beq n 1) (k (pc + 1) ls (.inl (px_c v) :: st) h)
  | .bipush v => px_if (Nat.beq n 2 && (decide (-128 ≤ v) && decide (v ≤ 127))) (k (pc + 2) ls (.inl (px_c v) :: st) h)
  | .sipush v => px_if (Nat.beq n 3 && (decide (-32768 ≤ v) && decide (v ≤ 32767))) (k (pc + 3) ls (.inl (px_c v) :: st) h)
  | .lconst v => px_if (Nat.beq n 1) (k (pc + 1) ls (.inr (.inr (Int64.ofNat (v : Nat))) :: st) h)
  | .ldc j => px_if (Nat.beq n 2) (match px_find X.2.2.2.1 j with
    | some q => k (pc + 2) ls (.inl (px_k q.1) :: st) h
    | none => none)
  | .ldc_w j => px_if (Nat.beq n 3) (match px_find X.2.2.2.1 j with
    | some q => k (pc + 3) ls (.inl (px_k q.1) :: st) h
    | none => none)
  | .ldc2_w j => px_if (Nat.beq n 3) (match px_find X.2.2.2.2 j with
    | some q => k (pc + 3) ls (.inr (.inr q.1) :: st) h
    | none => none)
  | .iload j => px_if (Nat.beq n 2) (px_ld ls j fun v => px_isI v (k (pc + 2) ls (v :: st) h))
  | .iload_n j => px_if (Nat.beq n 1) (px_ld ls j fun v => px_isI v (k (pc + 1) ls (v :: st) h))
  | .aload j => px_if (Nat.beq n 2) (px_ld ls j fun v => px_isA v (k (pc + 2) ls (v :: st) h))
  | .aload_n j => px_if (Nat.beq n 1) (px_ld ls j fun v => px_isA v (k (pc + 1) ls (v :: st) h))
  | .lload j => px_if (Nat.beq n 2) (px_ld ls j fun v => px_isL v (k (pc + 2) ls (v :: st) h))
  | .istore j => px_if (Nat.beq n 2 && px_cs ls j) (px_i1 st fun x r => k (pc + 2) (px_upd ls j (some (.inl x))) r h)
  | .istore_n j => px_if (Nat.beq n 1 && px_cs ls j) (px_i1 st fun x r => k (pc + 1) (px_upd ls j (some (.inl x))) r h)
  | .lstore j => px_if (Nat.beq n 2 && px_cs ls j && Nat.blt (j + 1) ls.length) (match st with
    | .inr (.inr x) :: r => k (pc + 2) (px_upd (px_upd ls (j + 1) none) j (some (.inr (.inr x)))) r h
    | _ => none)
  | .iinc j v => px_if (Nat.beq n 3 && px_cs ls j) (px_ld ls j fun w => match w with
    | .inl x => k (pc + 3) (px_upd ls j (some (.inl (x + px_c v)))) st h
    | _ => none)
  | .iadd => px_if (Nat.beq n 1) (px_i2 st fun x y r => k (pc + 1) ls (.inl (x + y) :: r) h)
  | .isub => px_if (Nat.beq n 1) (px_i2 st fun x y r => k (pc + 1) ls (.inl (x - y) :: r) h)
  | .imul => px_if (Nat.beq n 1) (px_i2 st fun x y r => k (pc + 1) ls (.inl (x * y) :: r) h)
  | .iand => px_if (Nat.beq n 1) (px_i2 st fun x y r => k (pc + 1) ls (.inl (x &&& y) :: r) h)
  | .ior => px_if (Nat.beq n 1) (px_i2 st fun x y r => k (pc + 1) ls (.inl (x ||| y) :: r) h)
  | .ixor => px_if (Nat.beq n 1) (px_i2 st fun x y r => k (pc + 1) ls (.inl (x ^^^ y) :: r) h)
  | .idiv => px_if (Nat.beq n 1) (px_i2 st fun x y r => if y = 0 then none else k (pc + 1) ls (.inl (x / y) :: r) h)
  | .irem => px_if (Nat.beq n 1) (px_i2 st fun x y r => if y = 0 then none else k (pc + 1) ls (.inl (x - x / y * y) :: r) h)
  | .ishl => px_if (Nat.beq n 1) (px_i2 st fun x y r => k (pc + 1) ls (.inl (x <<< (y &&& 31)) :: r) h)
  | .ishr => px_if (Nat.beq n 1) (px_i2 st fun x y r => k (pc + 1) ls (.inl (x >>> (y &&& 31)) :: r) h)
  | .iushr => px_if (Nat.beq n 1) (px_i2 st fun x y r => k (pc + 1) ls (.inl (px_ush x y) :: r) h)
  | .ineg => px_if (Nat.beq n 1) (px_i1 st fun x r => k (pc + 1) ls (.inl (-x) :: r) h)
  | .i2b => px_if (Nat.beq n 1) (px_i1 st fun x r => k (pc + 1) ls (.inl (px_i2b x) :: r) h)
  | .i2s => px_if (Nat.beq n 1) (px_i1 st fun x r => k (pc + 1) ls (.inl (px_i2s x) :: r) h)
  | .i2c => px_if (Nat.beq n 1) (px_i1 st fun x r => k (pc + 1) ls (.inl (px_i2c x) :: r) h)
  | .i2l => px_if (Nat.beq n 1) (px_i1 st fun x r => k (pc + 1) ls (.inr (.inr x.toInt64) :: r) h)
  | .l2i => px_if (Nat.beq n 1) (match st with
    | .inr (.inr x) :: r => k (pc + 1) ls (.inl x.toInt32 :: r) h
    | _ => none)
  | .ladd => px_if (Nat.beq n 1) (px_l2 st fun x y r => k (pc + 1) ls (.inr (.inr (x + y)) :: r) h)
  | .lsub => px_if (Nat.beq n 1) (px_l2 st fun x y r => k (pc + 1) ls (.inr (.inr (x - y)) :: r) h)
  | .lcmp => px_if (Nat.beq n 1) (px_l2 st fun x y r => k (pc + 1) ls (.inl (lg_cmp x y) :: r) h)
  | .dup => px_if (Nat.beq n 1) (match st with
    | v :: r => px_if (Nat.beq (px_cat v) 1) (k (pc + 1) ls (v :: v :: r) h)
    | _ => none)
  | .pop => px_if (Nat.beq n 1) (match st with
    | v :: r => px_if (Nat.beq (px_cat v) 1) (k (pc + 1) ls r h)
    | _ => none)
  | .dup2 => px_if (Nat.beq n 1) (match st with
    | v :: w :: r => px_if (Nat.beq (px_cat v) 1 && Nat.beq (px_cat w) 1) (k (pc + 1) ls (v :: w :: v :: w :: r) h)
    | _ => none)
  | .dup_x1 => px_if (Nat.beq n 1) (match st with
    | v :: w :: r => px_if (Nat.beq (px_cat v) 1 && Nat.beq (px_cat w) 1) (k (pc + 1) ls (v :: w :: v :: r) h)
    | _ => none)
  | .ifCond o off => px_if (Nat.beq n 3) (px_i1 st fun x r => px_tg pc off fun t => px_cond o x 0 (k t ls r h) (k (pc + 3) ls r h))
  | .if_icmp o off => px_if (Nat.beq n 3) (px_i2 st fun x y r => px_tg pc off fun t => px_cond o x y (k t ls r h) (k (pc + 3) ls r h))
  | .goto off => px_if (Nat.beq n 3) (px_tg pc off fun t => k t ls st h)
  | .tableswitch d lo hi offs => px_if (decide (lo + (offs.toList.length : Int) = hi + 1) && (decide (-2147483648 ≤ lo) && decide (hi ≤ 2147483647))) (px_i1 st fun x r => px_ts offs.toList lo d x fun off => px_tg pc off fun t => k t ls r h)
  | .lookupswitch d ps => px_if ((ps.toList.zip (ps.toList.drop 1)).all (fun (a, next) => a.1 < next.1) && px_sorted ps.toList) (px_i1 st fun x r => px_lk ps.toList d x fun off => px_tg pc off fun t => k t ls r h)
  | .getfield j => px_if (Nat.beq n 3) (match st with
    | .inr (.inl a) :: r => match px_find X.2.1 j with
      | some q => px_get a q.1 q.2.1 h fun v => k (pc + 3) ls (v :: r) h
      | none => none
    | _ => none)
  | .putfield j => px_if (Nat.beq n 3) (match st with
    | v :: .inr (.inl a) :: r => match px_find X.2.1 j with
      | some q => px_put a q.1 q.2.1 v h fun h1 => k (pc + 3) ls r h1
      | none => none
    | _ => none)
  | .arraylength => px_if (Nat.beq n 1) (match st with
    | .inr (.inl a) :: r => px_if (Nat.blt (px_tag a) 4) (k (pc + 1) ls (.inl (nI (px_len a)) :: r) h)
    | _ => none)
  | .iaload => px_if (Nat.beq n 1) (match st with
    | .inl i :: .inr (.inl a) :: r => px_if (px_ok 0 a i) (k (pc + 1) ls (.inl (h a i.toNatClampNeg) :: r) h)
    | _ => none)
  | .baload => px_if (Nat.beq n 1) (match st with
    | .inl i :: .inr (.inl a) :: r => px_if (px_ok 1 a i || px_ok 3 a i) (k (pc + 1) ls (.inl (h a i.toNatClampNeg) :: r) h)
    | _ => none)
  | .caload => px_if (Nat.beq n 1) (match st with
    | .inl i :: .inr (.inl a) :: r => px_if (px_ok 2 a i) (k (pc + 1) ls (.inl (h a i.toNatClampNeg) :: r) h)
    | _ => none)
  | .iastore => px_if (Nat.beq n 1) (match st with
    | .inl x :: .inl i :: .inr (.inl a) :: r => px_if (px_ok 0 a i) (k (pc + 1) ls r (px_w h a i.toNatClampNeg x))
    | _ => none)
  | .bastore => px_if (Nat.beq n 1) (match st with
    | .inl x :: .inl i :: .inr (.inl a) :: r => match Nat.beq (px_tag a) 3 with
      | true => px_if (px_ok 3 a i) (k (pc + 1) ls r (px_w h a i.toNatClampNeg (px_nz x)))
      | false => px_if (px_ok 1 a i) (k (pc + 1) ls r (px_w h a i.toNatClampNeg (px_nb x)))
    | _ => none)
  | .castore => px_if (Nat.beq n 1) (match st with
    | .inl x :: .inl i :: .inr (.inl a) :: r => px_if (px_ok 2 a i) (k (pc + 1) ls r (px_w h a i.toNatClampNeg (px_nc x)))
    | _ => none)
  | .invokestatic j => px_if (Nat.beq n 3) (match px_find X.2.2.1 j with
    | none => none
    | some q => match Nat.ble 1000 q.1 with
      | false => px_call C q.1 true pc ls st h k
      | true => match q.1 with
        | 1000 => px_i2 st fun x y r => px_if (px_low r) (k (pc + 3) ls (.inl (px_max x y) :: r) h)
        | 1001 => px_i2 st fun x y r => px_if (px_low r) (k (pc + 3) ls (.inl (px_min x y) :: r) h)
        | 1002 => px_i1 st fun x r => px_if (px_low r) (k (pc + 3) ls (.inl (px_abs x) :: r) h)
        | 1003 => px_l2 st fun x y r => px_if (px_low r) (k (pc + 3) ls (.inr (.inr (px_maxL x y)) :: r) h)
        | 1004 => px_l2 st fun x y r => px_if (px_low r) (k (pc + 3) ls (.inr (.inr (px_minL x y)) :: r) h)
        | _ => none)
  | .invokevirtual j => px_if (Nat.beq n 3) (match px_find X.2.2.1 j with
    | none => none
    | some q => px_call C q.1 false pc ls st h k)
  | .ireturn => px_if (Nat.beq n 1) (match st with
    | [.inl x] => match rt with
      | some .int => some (x, h)
      | some .boolean => px_bz x h
      | _ => none
    | _ => none)
  | .return_ => px_if (Nat.beq n 1) (match st, rt with
    | [], none => some (0, h)
    | _, _ => none)
  | _ => none
def px_mem : List Nat → Nat → Bool
  | [], _ => false
  | a :: l, i => match Nat.beq a i with
    | true => true
    | false => px_mem l i
abbrev pCode : Type := List (Nat × Instr × Nat)
/-- from pc on, till a place of ld: what comes there is K's -/
noncomputable def px_blk (X : pX) (rt : Option FieldType) (C : pC) (code : pCode) (ld : List Nat) (K : pK) : Nat → pK
  | 0, _, _, _, _ => none
  | n + 1, pc, ls, st, h => match px_find code pc with
    | none => none
    | some q => px_step X rt C q.1 q.2 pc ls st h fun pc' ls' st' h' => match px_mem ld pc' with
      | true => K pc' ls' st' h'
      | false => px_blk X rt C code ld K n pc' ls' st' h'
