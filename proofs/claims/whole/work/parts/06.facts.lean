/-! Fields, rows, calls, returns -/
def px_mrB (q : px_MI × Nat × Nat × Nat × Nat) : Bool := (px_at q.2.2.2.2 (.initialized q.1.1.cls) && (decide (q.1.1.cls ≠ "java/lang/invoke/MethodHandle" ∧ q.1.1.cls ≠ "java/lang/invoke/VarHandle" ∧ (parseMethodDescriptor q.1.1.desc).map (fun d => d.parameters.length) = some q.1.2.2.2.2.2.1) && (plainName q.1.1.cls && (Nat.ble q.1.2.2.1 20 && (match q.1.2.2.2.2.1 with
  | true => px_at q.2.2.1 (.static q.1.1)
  | false => px_at q.2.2.1 (.instanceMethod q.1.1) && (px_at q.2.2.2.1 (.selects q.1.1.cls q.1.1 q.1.1) && (match px_cl[q.1.2.2.2.2.2.2]? with
    | some r => decide (r.1 = q.1.1.cls)
    | none => false)))))))
set_option maxRecDepth 20000 in
theorem px_mt_ok0 : (((px_mt.zip px_mp).drop 0).take 24).all px_mrB = true := by decide +kernel
set_option maxRecDepth 20000 in
theorem px_mt_ok24 : (((px_mt.zip px_mp).drop 24).take 24).all px_mrB = true := by decide +kernel
set_option maxRecDepth 20000 in
theorem px_mt_ok48 : (((px_mt.zip px_mp).drop 48).take 24).all px_mrB = true := by decide +kernel
set_option maxRecDepth 20000 in
theorem px_mt_ok72 : (((px_mt.zip px_mp).drop 72).take 24).all px_mrB = true := by decide +kernel
set_option maxRecDepth 20000 in
theorem px_mt_ok96 : (((px_mt.zip px_mp).drop 96).take 24).all px_mrB = true := by decide +kernel
set_option maxRecDepth 20000 in
theorem px_mt_ok120 : (((px_mt.zip px_mp).drop 120).take 24).all px_mrB = true := by decide +kernel
set_option maxRecDepth 20000 in
theorem px_mt_ok144 : (((px_mt.zip px_mp).drop 144).take 24).all px_mrB = true := by decide +kernel
set_option maxRecDepth 20000 in
theorem px_mt_ok168 : (((px_mt.zip px_mp).drop 168).take 24).all px_mrB = true := by decide +kernel
set_option maxRecDepth 20000 in
theorem px_mt_ok192 : (((px_mt.zip px_mp).drop 192).take 24).all px_mrB = true := by decide +kernel
set_option maxRecDepth 20000 in
theorem px_mt_ok216 : (((px_mt.zip px_mp).drop 216).take 24).all px_mrB = true := by decide +kernel
set_option maxRecDepth 20000 in
theorem px_mt_ok240 : (((px_mt.zip px_mp).drop 240).take 24).all px_mrB = true := by decide +kernel
set_option maxRecDepth 20000 in
theorem px_mt_ok264 : (((px_mt.zip px_mp).drop 264).take 24).all px_mrB = true := by decide +kernel
set_option maxRecDepth 20000 in
theorem px_mt_end : ((px_mt.zip px_mp).drop (264 + 24)).all px_mrB = true := by decide +kernel
theorem px_all_cut {α : Type} {p : α → Bool} {l : List α} {k n : Nat} (h1 : ((l.drop k).take n).all p = true) (h2 : (l.drop (k + n)).all p = true) : (l.drop k).all p = true := by
  rw [← List.take_append_drop n (l.drop k), List.all_append, h1, List.drop_drop, h2]
  rfl
theorem px_mt_ok : (px_mt.zip px_mp).all px_mrB = true := px_all_cut (k := 0) (n := 24) px_mt_ok0 (px_all_cut (k := 24) (n := 24) px_mt_ok24 (px_all_cut (k := 48) (n := 24) px_mt_ok48 (px_all_cut (k := 72) (n := 24) px_mt_ok72 (px_all_cut (k := 96) (n := 24) px_mt_ok96 (px_all_cut (k := 120) (n := 24) px_mt_ok120 (px_all_cut (k := 144) (n := 24) px_mt_ok144 (px_all_cut (k := 168) (n := 24) px_mt_ok168 (px_all_cut (k := 192) (n := 24) px_mt_ok192 (px_all_cut (k := 216) (n := 24) px_mt_ok216 (px_all_cut (k := 240) (n := 24) px_mt_ok240 (px_all_cut (k := 264) (n := 24) px_mt_ok264 (px_mt_end))))))))))))
theorem px_mt_len : px_mt.length = px_mp.length := by decide +kernel
set_option maxRecDepth 20000 in
theorem px_codes : px_mt.map (fun r => some (Jvm.Cond.code r.1 r.2.1 r.2.2.1 r.2.2.2.1)) = px_mp.map (fun z => lw_tbl[z.1]?) := rfl
theorem px_code_in {id : Nat} {r : px_MI} (h : px_nth px_mt id = some r) : Jvm.Cond.code r.1 r.2.1 r.2.2.1 r.2.2.2.1 ∈ px_TB := by
  rw [px_nth_eq] at h
  have h1 := congrArg (fun l => l[id]?) px_codes
  simp only [List.getElem?_map, h, Option.map_some] at h1
  cases hz : px_mp[id]? with
  | none => rw [hz] at h1; cases h1
  | some z =>
    rw [hz] at h1
    exact px_TB_of (List.mem_of_getElem? (Option.some.inj h1).symm) rfl
theorem px_mt_at {id : Nat} {r : px_MI} (h : px_nth px_mt id = some r) : ∃ z, px_mrB (r, z) = true := by
  rw [px_nth_eq] at h
  obtain ⟨h1, h2⟩ := List.getElem?_eq_some_iff.mp h
  have h3 : id < px_mp.length := by rw [← px_mt_len]; exact h1
  refine ⟨px_mp[id], List.all_eq_true.mp px_mt_ok _ ?_⟩
  have h4 : (px_mt.zip px_mp)[id]? = some (r, px_mp[id]) := by
    rw [List.getElem?_zip_eq_some]
    exact ⟨h, List.getElem?_eq_getElem h3⟩
  exact List.mem_of_getElem? h4
def px_clB (r : vw_C) : Bool := (u_ws r.1 r.2.1 r.2.2).all fun w => decide (w ∈ lw_tbl) && goodWord w
set_option maxRecDepth 20000 in
theorem px_cl_ok : px_cl.all px_clB = true := by decide +kernel
theorem px_cl_in {ci : Nat} {r : vw_C} (h : px_cl[ci]? = some r) : ∀ w ∈ u_ws r.1 r.2.1 r.2.2, w ∈ px_TB := by
  intro w hw
  have h1 := List.all_eq_true.mp px_cl_ok r (List.mem_of_getElem? h)
  have h2 := List.all_eq_true.mp h1 w hw
  rw [Bool.and_eq_true] at h2
  exact px_TB_of (of_decide_eq_true h2.1) h2.2
theorem px_cl_ty {ci : Nat} {r : vw_C} (h : px_cl[ci]? = some r) : (∀ a, a < r.2.2 → ∀ b, b < r.2.2 → a ≠ b → (r.2.1 a).2.1 ≠ (r.2.1 b).2.1) ∧ ∃ ty0 : Nat → FieldType, ∀ k, k < r.2.2 → parseFieldDescriptor (r.2.1 k).2.2.1 = some (ty0 k) := by
  match ci, h with
  | 0, h => cases h; exact ⟨nmX0, tyX0, tyX0_ok⟩
  | 1, h => cases h; exact ⟨nmX1, tyX1, tyX1_ok⟩
  | 2, h => cases h; exact ⟨nmX2, tyX2, tyX2_ok⟩
  | 3, h => cases h; exact ⟨nmX3, tyX3, tyX3_ok⟩
  | 4, h => cases h; exact ⟨nmX4, tyX4, tyX4_ok⟩
  | 5, h => cases h; exact ⟨nmX5, tyX5, tyX5_ok⟩
  | 6, h => cases h; exact ⟨nmX6, tyX6, tyX6_ok⟩
  | 7, h => cases h; exact ⟨nmX7, tyX7, tyX7_ok⟩
  | 8, h => cases h; exact ⟨nmX8, tyX8, tyX8_ok⟩
  | 9, h => cases h; exact ⟨nmX9, tyX9, tyX9_ok⟩
  | 10, h => cases h; exact ⟨nmX10, tyX10, tyX10_ok⟩
  | 11, h => cases h; exact ⟨nmX11, tyX11, tyX11_ok⟩
  | k + 12, h => simp [px_cl] at h
