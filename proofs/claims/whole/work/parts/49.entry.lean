/-! The law from its entry, over what is owed -/
set_option maxRecDepth 100000 in
theorem lw_whole {Inv : Nat → pH → Prop} (hI0 : Inv 0 px_h0) (hB : lw_B Inv) (hM : ∀ i h, Inv i h → Inv (i + 5) h) (hX5 : lw_X Inv 293) (hX6 : lw_X Inv 361) (hX37 : lw_X Inv 1431) {p : Program} {e : Env} {s : State} {m : MethodId} {below : List Frame} {meth : Method} {c : Code} (l : Launch) (hflags : l.flags = flags0) {b L : Nat} {xs : Nat → Int32} (hL : L ≤ 2560) (C0 : lw_At p s m meth c b L xs) : W p l e room_1 s m #[Value.ref b] below meth c s.heap [] 0 0 (lw_Z below #[Value.ref b] s) (entryFrame m ([Value.ref b] : List Value).toArray 7) := by
  obtain ⟨hx, hb, hr, hml, hown, hts0, hX, hbl, hlocks, hgv⟩ := id C0
  have hts := lw_TB hts0
  have hTN := lw_TN hts0
  obtain ⟨D, D3, hK⟩ := lw_kn hts0
  have hl := lv_entry ([.ref b]) (n := 7) (Nat.le_of_ble_eq_true rfl)
  rw [lg_entry_eq]
  generalize (lg_sl ([.ref b]) ++ List.replicate (7 - (lg_sl ([.ref b])).length) Slot.unset).toArray = ls at hl ⊢
  have hl : lv_has ls 7 [(0, .ref b)] := hl
  have hP : va_P D px_cl (qi_ws D3 (fun _ => 0) []) s.heap := fun k q h => by simp [qi_ws, qi_go] at h
  have hD : va_D (fun q : Nat => s.heap.size ≤ q) (qi_ws D3 (fun _ => 0) []) := ⟨fun i j p q h => by simp [qi_ws, qi_go] at h, fun k q h => by simp [qi_ws, qi_go] at h⟩
  have hS : va_S (fun q : Nat => s.heap.size ≤ q) s.heap s.heap [] := va_S.rf
  refine lw_new (nL := 0) (ci := 10) hx hb hown hts hK (by decide) rfl (px_TB_of (List.mem_of_getElem? (i := 207) rfl) rfl) (px_TB_of (List.mem_of_getElem? (i := 208) rfl) rfl) (px_TB_of (List.mem_of_getElem? (i := 189) rfl) rfl) rfl rfl hP hD hS (Nat.le_of_ble_eq_true rfl) (Nat.le_of_ble_eq_true rfl) (lw_d rfl) (fun q0 H hP hD hS => ?_)
  refine lv_dup hx hb (lw_d rfl) rfl ?_
  have hq0 : q0 = qi_up (fun _ => 0) ([] : qI).length q0 0 := rfl
  rw [hq0]
  refine lw_ctor (d := 2) (cid := 10) (b0 := 0) hx hb hml hown hts hK hTN rfl (px_TB_of (List.mem_of_getElem? (i := 209) rfl) rfl) qi_con_wu ⟨by show 3 ≤ 2048; omega, by show 120 ≤ 84000; omega⟩ hP hD hS ⟨Nat.le_of_ble_eq_true rfl, Nat.le_of_ble_eq_true rfl⟩ hl.1 (Nat.le_of_ble_eq_true rfl) (lw_d rfl) (fun ad1 H locs hag1 hP hD hS => ?_)
  rw [← hag1 0 (by decide)]
  refine lv_astore_n (lv' := [(1, .ref (ad1 0)), (0, .ref b)]) hx hb (lw_d rfl) rfl hl (by decide) rfl (fun ls hl => ?_)
  refine lw_new (nL := 0) (ci := 11) hx hb hown hts hK (by decide) rfl (px_TB_of (List.mem_of_getElem? (i := 1499) rfl) rfl) (px_TB_of (List.mem_of_getElem? (i := 1500) rfl) rfl) (px_TB_of (List.mem_of_getElem? (i := 200) rfl) rfl) rfl rfl hP hD hS (Nat.le_of_ble_eq_true rfl) (Nat.le_of_ble_eq_true rfl) (lw_d rfl) (fun q1 H hP hD hS => ?_)
  refine lv_dup hx hb (lw_d rfl) rfl ?_
  have hq1 : q1 = qi_up ad1 qi_wu.length q1 51 := rfl
  rw [hq1]
  refine lw_ctor (d := 1) (cid := 11) (b0 := 51) hx hb hml hown hts hK hTN rfl (px_TB_of (List.mem_of_getElem? (i := 1501) rfl) rfl) qi_con_mo ⟨by show 2 ≤ 2048; omega, by show 80 ≤ 84000; omega⟩ hP hD hS ⟨Nat.le_of_ble_eq_true rfl, Nat.le_of_ble_eq_true rfl⟩ hl.1 (Nat.le_of_ble_eq_true rfl) (lw_d rfl) (fun ad2 H locs hag2 hP hD hS => ?_)
  rw [← hag2 51 (by decide)]
  have hag3 : ad2 0 = ad1 0 := (hag2 0 (by decide)).trans (qi_up_lt (by decide))
  rw [← hag3] at hl
  refine lv_astore_n (lv' := [(2, .ref (ad2 51)), (1, .ref (ad2 0)), (0, .ref b)]) hx hb (lw_d rfl) rfl hl (by decide) rfl (fun ls hl => ?_)
  rw [px_w0] at hP hD
  refine lv_iconst (v := 1) hx hb (lw_d rfl) rfl ?_
  refine va_newaK (atype := .long) (N := 1) hx hb (hts0 _ (List.mem_of_getElem? (i := 2131) rfl)) rfl (lw_d rfl) rfl (by decide) (by decide) (by decide) (Nat.le_of_ble_eq_true rfl) (Nat.le_of_ble_eq_true rfl) rfl fun H1 cL e1 z1 o1 hAr hNm => ?_
  have hk : ∀ (k : Nat) (x : Nat × va_E), (px_ws D3 ad2 px_h0)[k]? = some x → H1[x.1]? = H[x.1]? := fun k x hx => o1 x.1 ((hP k x hx).lt)
  have hP1 : va_P D px_cl (px_ws D3 ad2 px_h0) H1 := hP.kept hk
  have hS1 : va_S (fun q : Nat => s.heap.size ≤ q) s.heap H1 locs := ⟨Nat.le_trans hS.1 (by omega), fun x h1 h2 => (o1 x (Nat.lt_of_lt_of_le h1 hS.1)).trans (hS.2.1 x h1 h2), hS.2.2⟩
  have hlt : ∀ a, a < px_N → ad2 a < H.size := fun a ha => (hP a _ (px_ws_at ha)).lt
  have hO : lw_out s ad2 H.size H1 := ⟨fun a ha h => absurd (hlt a ha) (by rw [h]; exact Nat.lt_irrefl _), hS.1, by omega, cL, fun _ => 0, e1, hAr, hNm⟩
  have hF : lw_Fix p s m meth c b L xs D D3 ad2 := ⟨C0, hK, fun i j hi hj h => hD.1 i j _ _ (px_ws_at hi) (px_ws_at hj) h, fun a ha => hD.2 a _ (px_ws_at ha)⟩
  refine lv_astore_n (lv' := [(3, .ref H.size), (2, .ref (ad2 51)), (1, .ref (ad2 0)), (0, .ref b)]) hx hb (lw_d rfl) rfl hl (by decide) rfl (fun ls hl => ?_)
  refine lv_iconst (v := nI 0) hx hb (lw_d rfl) rfl ?_
  refine lv_istore (lv' := [(4, .int (nI 0)), (3, .ref H.size), (2, .ref (ad2 51)), (1, .ref (ad2 0)), (0, .ref b)]) hx hb (lw_d rfl) hl (by decide) rfl (fun ls hl => ?_)
  exact lw_loop hB hM hX5 hX6 hX37 hflags hF hL (L + 6) 0 _ _ px_h0 ls (by omega) (by omega) (by show _ + (L + 6) ≤ 600000; omega) (by show _ + 6 * (L + 6) ≤ 7000000; omega) hI0 (lv_sub hl [4, 3, 2, 1, 0] rfl) H1 locs hP1 hO hS1
