/-! Layer B: reading and writing the rows, a row a cell -/
theorem B_cl0 : (0 : Int32).toNatClampNeg = 0 := rfl
theorem po_2 {k : Nat} (hk : k < 80) : px_ok 2 2 (nI k) = true := px_ok_nI (t := 2) (a := 2) rfl hk (by decide)
theorem pz_2 : px_ok 2 2 0 = true := by
  rw [← nI_0]
  exact po_2 (by omega)
theorem wa_4 {h : pH} {k : Nat} (hk : k < 6) : wu_at 4 (nI k) h = some (h 4 k, h) := by
  rw [wu_at_eq (a := 4) rfl (by decide), B_at_n (a := 4) rfl hk (by decide)]
theorem wz_4 {h : pH} : wu_at 4 0 h = some (h 4 0, h) := by
  rw [← nI_0]
  exact wa_4 (by omega)
theorem wm_4 {h : pH} : wu_at 4 (-1) h = some (0, h) := by
  rw [wu_at_eq (a := 4) rfl (by decide)]
  rfl
theorem wp_4 {h : pH} {k : Nat} {v : Int32} (hk : k < 6) : wu_put 4 (nI k) v h = some (0, px_w h 4 k v) := by
  rw [wu_put_eq (a := 4) rfl (by decide)]
  unfold B_put
  rw [if_pos (px_ok_nI (t := 0) (a := 4) rfl hk (by decide)), nI_clamp (by omega)]
theorem wq_4 {h : pH} {v : Int32} : wu_put 4 0 v h = some (0, px_w h 4 0 v) := by
  rw [← nI_0]
  exact wp_4 (by omega)
theorem wa_5 {h : pH} {k : Nat} (hk : k < 6) : wu_at 5 (nI k) h = some (h 5 k, h) := by
  rw [wu_at_eq (a := 5) rfl (by decide), B_at_n (a := 5) rfl hk (by decide)]
theorem wz_5 {h : pH} : wu_at 5 0 h = some (h 5 0, h) := by
  rw [← nI_0]
  exact wa_5 (by omega)
theorem wm_5 {h : pH} : wu_at 5 (-1) h = some (0, h) := by
  rw [wu_at_eq (a := 5) rfl (by decide)]
  rfl
theorem wp_5 {h : pH} {k : Nat} {v : Int32} (hk : k < 6) : wu_put 5 (nI k) v h = some (0, px_w h 5 k v) := by
  rw [wu_put_eq (a := 5) rfl (by decide)]
  unfold B_put
  rw [if_pos (px_ok_nI (t := 0) (a := 5) rfl hk (by decide)), nI_clamp (by omega)]
theorem wq_5 {h : pH} {v : Int32} : wu_put 5 0 v h = some (0, px_w h 5 0 v) := by
  rw [← nI_0]
  exact wp_5 (by omega)
theorem wa_6 {h : pH} {k : Nat} (hk : k < 6) : wu_at 6 (nI k) h = some (h 6 k, h) := by
  rw [wu_at_eq (a := 6) rfl (by decide), B_at_n (a := 6) rfl hk (by decide)]
theorem wz_6 {h : pH} : wu_at 6 0 h = some (h 6 0, h) := by
  rw [← nI_0]
  exact wa_6 (by omega)
theorem wm_6 {h : pH} : wu_at 6 (-1) h = some (0, h) := by
  rw [wu_at_eq (a := 6) rfl (by decide)]
  rfl
theorem wp_6 {h : pH} {k : Nat} {v : Int32} (hk : k < 6) : wu_put 6 (nI k) v h = some (0, px_w h 6 k v) := by
  rw [wu_put_eq (a := 6) rfl (by decide)]
  unfold B_put
  rw [if_pos (px_ok_nI (t := 0) (a := 6) rfl hk (by decide)), nI_clamp (by omega)]
theorem wq_6 {h : pH} {v : Int32} : wu_put 6 0 v h = some (0, px_w h 6 0 v) := by
  rw [← nI_0]
  exact wp_6 (by omega)
theorem wa_7 {h : pH} {k : Nat} (hk : k < 10) : wu_at 7 (nI k) h = some (h 7 k, h) := by
  rw [wu_at_eq (a := 7) rfl (by decide), B_at_n (a := 7) rfl hk (by decide)]
theorem wz_7 {h : pH} : wu_at 7 0 h = some (h 7 0, h) := by
  rw [← nI_0]
  exact wa_7 (by omega)
theorem wm_7 {h : pH} : wu_at 7 (-1) h = some (0, h) := by
  rw [wu_at_eq (a := 7) rfl (by decide)]
  rfl
theorem wp_7 {h : pH} {k : Nat} {v : Int32} (hk : k < 10) : wu_put 7 (nI k) v h = some (0, px_w h 7 k v) := by
  rw [wu_put_eq (a := 7) rfl (by decide)]
  unfold B_put
  rw [if_pos (px_ok_nI (t := 0) (a := 7) rfl hk (by decide)), nI_clamp (by omega)]
theorem wq_7 {h : pH} {v : Int32} : wu_put 7 0 v h = some (0, px_w h 7 0 v) := by
  rw [← nI_0]
  exact wp_7 (by omega)
theorem wa_8 {h : pH} {k : Nat} (hk : k < 10) : wu_at 8 (nI k) h = some (h 8 k, h) := by
  rw [wu_at_eq (a := 8) rfl (by decide), B_at_n (a := 8) rfl hk (by decide)]
theorem wz_8 {h : pH} : wu_at 8 0 h = some (h 8 0, h) := by
  rw [← nI_0]
  exact wa_8 (by omega)
theorem wm_8 {h : pH} : wu_at 8 (-1) h = some (0, h) := by
  rw [wu_at_eq (a := 8) rfl (by decide)]
  rfl
theorem wp_8 {h : pH} {k : Nat} {v : Int32} (hk : k < 10) : wu_put 8 (nI k) v h = some (0, px_w h 8 k v) := by
  rw [wu_put_eq (a := 8) rfl (by decide)]
  unfold B_put
  rw [if_pos (px_ok_nI (t := 0) (a := 8) rfl hk (by decide)), nI_clamp (by omega)]
theorem wq_8 {h : pH} {v : Int32} : wu_put 8 0 v h = some (0, px_w h 8 0 v) := by
  rw [← nI_0]
  exact wp_8 (by omega)
theorem wa_9 {h : pH} {k : Nat} (hk : k < 10) : wu_at 9 (nI k) h = some (h 9 k, h) := by
  rw [wu_at_eq (a := 9) rfl (by decide), B_at_n (a := 9) rfl hk (by decide)]
theorem wz_9 {h : pH} : wu_at 9 0 h = some (h 9 0, h) := by
  rw [← nI_0]
  exact wa_9 (by omega)
theorem wm_9 {h : pH} : wu_at 9 (-1) h = some (0, h) := by
  rw [wu_at_eq (a := 9) rfl (by decide)]
  rfl
theorem wp_9 {h : pH} {k : Nat} {v : Int32} (hk : k < 10) : wu_put 9 (nI k) v h = some (0, px_w h 9 k v) := by
  rw [wu_put_eq (a := 9) rfl (by decide)]
  unfold B_put
  rw [if_pos (px_ok_nI (t := 0) (a := 9) rfl hk (by decide)), nI_clamp (by omega)]
theorem wq_9 {h : pH} {v : Int32} : wu_put 9 0 v h = some (0, px_w h 9 0 v) := by
  rw [← nI_0]
  exact wp_9 (by omega)
theorem wa_10 {h : pH} {k : Nat} (hk : k < 10) : wu_at 10 (nI k) h = some (h 10 k, h) := by
  rw [wu_at_eq (a := 10) rfl (by decide), B_at_n (a := 10) rfl hk (by decide)]
theorem wz_10 {h : pH} : wu_at 10 0 h = some (h 10 0, h) := by
  rw [← nI_0]
  exact wa_10 (by omega)
theorem wm_10 {h : pH} : wu_at 10 (-1) h = some (0, h) := by
  rw [wu_at_eq (a := 10) rfl (by decide)]
  rfl
theorem wp_10 {h : pH} {k : Nat} {v : Int32} (hk : k < 10) : wu_put 10 (nI k) v h = some (0, px_w h 10 k v) := by
  rw [wu_put_eq (a := 10) rfl (by decide)]
  unfold B_put
  rw [if_pos (px_ok_nI (t := 0) (a := 10) rfl hk (by decide)), nI_clamp (by omega)]
theorem wq_10 {h : pH} {v : Int32} : wu_put 10 0 v h = some (0, px_w h 10 0 v) := by
  rw [← nI_0]
  exact wp_10 (by omega)
theorem wa_11 {h : pH} {k : Nat} (hk : k < 10) : wu_at 11 (nI k) h = some (h 11 k, h) := by
  rw [wu_at_eq (a := 11) rfl (by decide), B_at_n (a := 11) rfl hk (by decide)]
theorem wz_11 {h : pH} : wu_at 11 0 h = some (h 11 0, h) := by
  rw [← nI_0]
  exact wa_11 (by omega)
theorem wm_11 {h : pH} : wu_at 11 (-1) h = some (0, h) := by
  rw [wu_at_eq (a := 11) rfl (by decide)]
  rfl
theorem wp_11 {h : pH} {k : Nat} {v : Int32} (hk : k < 10) : wu_put 11 (nI k) v h = some (0, px_w h 11 k v) := by
  rw [wu_put_eq (a := 11) rfl (by decide)]
  unfold B_put
  rw [if_pos (px_ok_nI (t := 0) (a := 11) rfl hk (by decide)), nI_clamp (by omega)]
theorem wq_11 {h : pH} {v : Int32} : wu_put 11 0 v h = some (0, px_w h 11 0 v) := by
  rw [← nI_0]
  exact wp_11 (by omega)
theorem wa_12 {h : pH} {k : Nat} (hk : k < 10) : wu_at 12 (nI k) h = some (h 12 k, h) := by
  rw [wu_at_eq (a := 12) rfl (by decide), B_at_n (a := 12) rfl hk (by decide)]
theorem wz_12 {h : pH} : wu_at 12 0 h = some (h 12 0, h) := by
  rw [← nI_0]
  exact wa_12 (by omega)
theorem wm_12 {h : pH} : wu_at 12 (-1) h = some (0, h) := by
  rw [wu_at_eq (a := 12) rfl (by decide)]
  rfl
theorem wp_12 {h : pH} {k : Nat} {v : Int32} (hk : k < 10) : wu_put 12 (nI k) v h = some (0, px_w h 12 k v) := by
  rw [wu_put_eq (a := 12) rfl (by decide)]
  unfold B_put
  rw [if_pos (px_ok_nI (t := 0) (a := 12) rfl hk (by decide)), nI_clamp (by omega)]
theorem wq_12 {h : pH} {v : Int32} : wu_put 12 0 v h = some (0, px_w h 12 0 v) := by
  rw [← nI_0]
  exact wp_12 (by omega)
theorem wa_13 {h : pH} {k : Nat} (hk : k < 10) : wu_at 13 (nI k) h = some (h 13 k, h) := by
  rw [wu_at_eq (a := 13) rfl (by decide), B_at_n (a := 13) rfl hk (by decide)]
theorem wz_13 {h : pH} : wu_at 13 0 h = some (h 13 0, h) := by
  rw [← nI_0]
  exact wa_13 (by omega)
theorem wm_13 {h : pH} : wu_at 13 (-1) h = some (0, h) := by
  rw [wu_at_eq (a := 13) rfl (by decide)]
  rfl
theorem wp_13 {h : pH} {k : Nat} {v : Int32} (hk : k < 10) : wu_put 13 (nI k) v h = some (0, px_w h 13 k v) := by
  rw [wu_put_eq (a := 13) rfl (by decide)]
  unfold B_put
  rw [if_pos (px_ok_nI (t := 0) (a := 13) rfl hk (by decide)), nI_clamp (by omega)]
theorem wq_13 {h : pH} {v : Int32} : wu_put 13 0 v h = some (0, px_w h 13 0 v) := by
  rw [← nI_0]
  exact wp_13 (by omega)
theorem wa_15 {h : pH} {k : Nat} (hk : k < 5) : wu_at 15 (nI k) h = some (h 15 k, h) := by
  rw [wu_at_eq (a := 15) rfl (by decide), B_at_n (a := 15) rfl hk (by decide)]
theorem wz_15 {h : pH} : wu_at 15 0 h = some (h 15 0, h) := by
  rw [← nI_0]
  exact wa_15 (by omega)
theorem wm_15 {h : pH} : wu_at 15 (-1) h = some (0, h) := by
  rw [wu_at_eq (a := 15) rfl (by decide)]
  rfl
theorem wp_15 {h : pH} {k : Nat} {v : Int32} (hk : k < 5) : wu_put 15 (nI k) v h = some (0, px_w h 15 k v) := by
  rw [wu_put_eq (a := 15) rfl (by decide)]
  unfold B_put
  rw [if_pos (px_ok_nI (t := 0) (a := 15) rfl hk (by decide)), nI_clamp (by omega)]
theorem wq_15 {h : pH} {v : Int32} : wu_put 15 0 v h = some (0, px_w h 15 0 v) := by
  rw [← nI_0]
  exact wp_15 (by omega)
theorem wa_16 {h : pH} {k : Nat} (hk : k < 5) : wu_at 16 (nI k) h = some (h 16 k, h) := by
  rw [wu_at_eq (a := 16) rfl (by decide), B_at_n (a := 16) rfl hk (by decide)]
theorem wz_16 {h : pH} : wu_at 16 0 h = some (h 16 0, h) := by
  rw [← nI_0]
  exact wa_16 (by omega)
theorem wm_16 {h : pH} : wu_at 16 (-1) h = some (0, h) := by
  rw [wu_at_eq (a := 16) rfl (by decide)]
  rfl
theorem wp_16 {h : pH} {k : Nat} {v : Int32} (hk : k < 5) : wu_put 16 (nI k) v h = some (0, px_w h 16 k v) := by
  rw [wu_put_eq (a := 16) rfl (by decide)]
  unfold B_put
  rw [if_pos (px_ok_nI (t := 0) (a := 16) rfl hk (by decide)), nI_clamp (by omega)]
theorem wq_16 {h : pH} {v : Int32} : wu_put 16 0 v h = some (0, px_w h 16 0 v) := by
  rw [← nI_0]
  exact wp_16 (by omega)
theorem wa_18 {h : pH} {k : Nat} (hk : k < 40) : wu_at 18 (nI k) h = some (h 18 k, h) := by
  rw [wu_at_eq (a := 18) rfl (by decide), B_at_n (a := 18) rfl hk (by decide)]
theorem wz_18 {h : pH} : wu_at 18 0 h = some (h 18 0, h) := by
  rw [← nI_0]
  exact wa_18 (by omega)
theorem wm_18 {h : pH} : wu_at 18 (-1) h = some (0, h) := by
  rw [wu_at_eq (a := 18) rfl (by decide)]
  rfl
theorem wp_18 {h : pH} {k : Nat} {v : Int32} (hk : k < 40) : wu_put 18 (nI k) v h = some (0, px_w h 18 k v) := by
  rw [wu_put_eq (a := 18) rfl (by decide)]
  unfold B_put
  rw [if_pos (px_ok_nI (t := 0) (a := 18) rfl hk (by decide)), nI_clamp (by omega)]
theorem wq_18 {h : pH} {v : Int32} : wu_put 18 0 v h = some (0, px_w h 18 0 v) := by
  rw [← nI_0]
  exact wp_18 (by omega)
theorem wa_19 {h : pH} {k : Nat} (hk : k < 40) : wu_at 19 (nI k) h = some (h 19 k, h) := by
  rw [wu_at_eq (a := 19) rfl (by decide), B_at_n (a := 19) rfl hk (by decide)]
theorem wz_19 {h : pH} : wu_at 19 0 h = some (h 19 0, h) := by
  rw [← nI_0]
  exact wa_19 (by omega)
theorem wm_19 {h : pH} : wu_at 19 (-1) h = some (0, h) := by
  rw [wu_at_eq (a := 19) rfl (by decide)]
  rfl
theorem wp_19 {h : pH} {k : Nat} {v : Int32} (hk : k < 40) : wu_put 19 (nI k) v h = some (0, px_w h 19 k v) := by
  rw [wu_put_eq (a := 19) rfl (by decide)]
  unfold B_put
  rw [if_pos (px_ok_nI (t := 0) (a := 19) rfl hk (by decide)), nI_clamp (by omega)]
theorem wq_19 {h : pH} {v : Int32} : wu_put 19 0 v h = some (0, px_w h 19 0 v) := by
  rw [← nI_0]
  exact wp_19 (by omega)
theorem wa_20 {h : pH} {k : Nat} (hk : k < 40) : wu_at 20 (nI k) h = some (h 20 k, h) := by
  rw [wu_at_eq (a := 20) rfl (by decide), B_at_n (a := 20) rfl hk (by decide)]
theorem wz_20 {h : pH} : wu_at 20 0 h = some (h 20 0, h) := by
  rw [← nI_0]
  exact wa_20 (by omega)
theorem wm_20 {h : pH} : wu_at 20 (-1) h = some (0, h) := by
  rw [wu_at_eq (a := 20) rfl (by decide)]
  rfl
theorem wp_20 {h : pH} {k : Nat} {v : Int32} (hk : k < 40) : wu_put 20 (nI k) v h = some (0, px_w h 20 k v) := by
  rw [wu_put_eq (a := 20) rfl (by decide)]
  unfold B_put
  rw [if_pos (px_ok_nI (t := 0) (a := 20) rfl hk (by decide)), nI_clamp (by omega)]
theorem wq_20 {h : pH} {v : Int32} : wu_put 20 0 v h = some (0, px_w h 20 0 v) := by
  rw [← nI_0]
  exact wp_20 (by omega)
theorem po_21 {k : Nat} (hk : k < 5) : px_ok 3 21 (nI k) = true := px_ok_nI (t := 3) (a := 21) rfl hk (by decide)
theorem pz_21 : px_ok 3 21 0 = true := by
  rw [← nI_0]
  exact po_21 (by omega)
theorem wa_23 {h : pH} {k : Nat} (hk : k < 6) : wu_at 23 (nI k) h = some (h 23 k, h) := by
  rw [wu_at_eq (a := 23) rfl (by decide), B_at_n (a := 23) rfl hk (by decide)]
theorem wz_23 {h : pH} : wu_at 23 0 h = some (h 23 0, h) := by
  rw [← nI_0]
  exact wa_23 (by omega)
theorem wm_23 {h : pH} : wu_at 23 (-1) h = some (0, h) := by
  rw [wu_at_eq (a := 23) rfl (by decide)]
  rfl
theorem wp_23 {h : pH} {k : Nat} {v : Int32} (hk : k < 6) : wu_put 23 (nI k) v h = some (0, px_w h 23 k v) := by
  rw [wu_put_eq (a := 23) rfl (by decide)]
  unfold B_put
  rw [if_pos (px_ok_nI (t := 0) (a := 23) rfl hk (by decide)), nI_clamp (by omega)]
theorem wq_23 {h : pH} {v : Int32} : wu_put 23 0 v h = some (0, px_w h 23 0 v) := by
  rw [← nI_0]
  exact wp_23 (by omega)
theorem wa_24 {h : pH} {k : Nat} (hk : k < 6) : wu_at 24 (nI k) h = some (h 24 k, h) := by
  rw [wu_at_eq (a := 24) rfl (by decide), B_at_n (a := 24) rfl hk (by decide)]
theorem wz_24 {h : pH} : wu_at 24 0 h = some (h 24 0, h) := by
  rw [← nI_0]
  exact wa_24 (by omega)
theorem wm_24 {h : pH} : wu_at 24 (-1) h = some (0, h) := by
  rw [wu_at_eq (a := 24) rfl (by decide)]
  rfl
theorem wp_24 {h : pH} {k : Nat} {v : Int32} (hk : k < 6) : wu_put 24 (nI k) v h = some (0, px_w h 24 k v) := by
  rw [wu_put_eq (a := 24) rfl (by decide)]
  unfold B_put
  rw [if_pos (px_ok_nI (t := 0) (a := 24) rfl hk (by decide)), nI_clamp (by omega)]
theorem wq_24 {h : pH} {v : Int32} : wu_put 24 0 v h = some (0, px_w h 24 0 v) := by
  rw [← nI_0]
  exact wp_24 (by omega)
theorem wa_26 {h : pH} {k : Nat} (hk : k < 10) : wu_at 26 (nI k) h = some (h 26 k, h) := by
  rw [wu_at_eq (a := 26) rfl (by decide), B_at_n (a := 26) rfl hk (by decide)]
theorem wz_26 {h : pH} : wu_at 26 0 h = some (h 26 0, h) := by
  rw [← nI_0]
  exact wa_26 (by omega)
theorem wm_26 {h : pH} : wu_at 26 (-1) h = some (0, h) := by
  rw [wu_at_eq (a := 26) rfl (by decide)]
  rfl
theorem wp_26 {h : pH} {k : Nat} {v : Int32} (hk : k < 10) : wu_put 26 (nI k) v h = some (0, px_w h 26 k v) := by
  rw [wu_put_eq (a := 26) rfl (by decide)]
  unfold B_put
  rw [if_pos (px_ok_nI (t := 0) (a := 26) rfl hk (by decide)), nI_clamp (by omega)]
theorem wq_26 {h : pH} {v : Int32} : wu_put 26 0 v h = some (0, px_w h 26 0 v) := by
  rw [← nI_0]
  exact wp_26 (by omega)
theorem wa_27 {h : pH} {k : Nat} (hk : k < 4) : wu_at 27 (nI k) h = some (h 27 k, h) := by
  rw [wu_at_eq (a := 27) rfl (by decide), B_at_n (a := 27) rfl hk (by decide)]
theorem wz_27 {h : pH} : wu_at 27 0 h = some (h 27 0, h) := by
  rw [← nI_0]
  exact wa_27 (by omega)
theorem wm_27 {h : pH} : wu_at 27 (-1) h = some (0, h) := by
  rw [wu_at_eq (a := 27) rfl (by decide)]
  rfl
theorem wp_27 {h : pH} {k : Nat} {v : Int32} (hk : k < 4) : wu_put 27 (nI k) v h = some (0, px_w h 27 k v) := by
  rw [wu_put_eq (a := 27) rfl (by decide)]
  unfold B_put
  rw [if_pos (px_ok_nI (t := 0) (a := 27) rfl hk (by decide)), nI_clamp (by omega)]
theorem wq_27 {h : pH} {v : Int32} : wu_put 27 0 v h = some (0, px_w h 27 0 v) := by
  rw [← nI_0]
  exact wp_27 (by omega)
theorem wa_28 {h : pH} {k : Nat} (hk : k < 4) : wu_at 28 (nI k) h = some (h 28 k, h) := by
  rw [wu_at_eq (a := 28) rfl (by decide), B_at_n (a := 28) rfl hk (by decide)]
theorem wz_28 {h : pH} : wu_at 28 0 h = some (h 28 0, h) := by
  rw [← nI_0]
  exact wa_28 (by omega)
theorem wm_28 {h : pH} : wu_at 28 (-1) h = some (0, h) := by
  rw [wu_at_eq (a := 28) rfl (by decide)]
  rfl
theorem wp_28 {h : pH} {k : Nat} {v : Int32} (hk : k < 4) : wu_put 28 (nI k) v h = some (0, px_w h 28 k v) := by
  rw [wu_put_eq (a := 28) rfl (by decide)]
  unfold B_put
  rw [if_pos (px_ok_nI (t := 0) (a := 28) rfl hk (by decide)), nI_clamp (by omega)]
theorem wq_28 {h : pH} {v : Int32} : wu_put 28 0 v h = some (0, px_w h 28 0 v) := by
  rw [← nI_0]
  exact wp_28 (by omega)
theorem wa_29 {h : pH} {k : Nat} (hk : k < 4) : wu_at 29 (nI k) h = some (h 29 k, h) := by
  rw [wu_at_eq (a := 29) rfl (by decide), B_at_n (a := 29) rfl hk (by decide)]
theorem wz_29 {h : pH} : wu_at 29 0 h = some (h 29 0, h) := by
  rw [← nI_0]
  exact wa_29 (by omega)
theorem wm_29 {h : pH} : wu_at 29 (-1) h = some (0, h) := by
  rw [wu_at_eq (a := 29) rfl (by decide)]
  rfl
theorem wp_29 {h : pH} {k : Nat} {v : Int32} (hk : k < 4) : wu_put 29 (nI k) v h = some (0, px_w h 29 k v) := by
  rw [wu_put_eq (a := 29) rfl (by decide)]
  unfold B_put
  rw [if_pos (px_ok_nI (t := 0) (a := 29) rfl hk (by decide)), nI_clamp (by omega)]
theorem wq_29 {h : pH} {v : Int32} : wu_put 29 0 v h = some (0, px_w h 29 0 v) := by
  rw [← nI_0]
  exact wp_29 (by omega)
theorem wa_30 {h : pH} {k : Nat} (hk : k < 4) : wu_at 30 (nI k) h = some (h 30 k, h) := by
  rw [wu_at_eq (a := 30) rfl (by decide), B_at_n (a := 30) rfl hk (by decide)]
theorem wz_30 {h : pH} : wu_at 30 0 h = some (h 30 0, h) := by
  rw [← nI_0]
  exact wa_30 (by omega)
theorem wm_30 {h : pH} : wu_at 30 (-1) h = some (0, h) := by
  rw [wu_at_eq (a := 30) rfl (by decide)]
  rfl
theorem wp_30 {h : pH} {k : Nat} {v : Int32} (hk : k < 4) : wu_put 30 (nI k) v h = some (0, px_w h 30 k v) := by
  rw [wu_put_eq (a := 30) rfl (by decide)]
  unfold B_put
  rw [if_pos (px_ok_nI (t := 0) (a := 30) rfl hk (by decide)), nI_clamp (by omega)]
theorem wq_30 {h : pH} {v : Int32} : wu_put 30 0 v h = some (0, px_w h 30 0 v) := by
  rw [← nI_0]
  exact wp_30 (by omega)
theorem wa_31 {h : pH} {k : Nat} (hk : k < 4) : wu_at 31 (nI k) h = some (h 31 k, h) := by
  rw [wu_at_eq (a := 31) rfl (by decide), B_at_n (a := 31) rfl hk (by decide)]
theorem wz_31 {h : pH} : wu_at 31 0 h = some (h 31 0, h) := by
  rw [← nI_0]
  exact wa_31 (by omega)
theorem wm_31 {h : pH} : wu_at 31 (-1) h = some (0, h) := by
  rw [wu_at_eq (a := 31) rfl (by decide)]
  rfl
theorem wp_31 {h : pH} {k : Nat} {v : Int32} (hk : k < 4) : wu_put 31 (nI k) v h = some (0, px_w h 31 k v) := by
  rw [wu_put_eq (a := 31) rfl (by decide)]
  unfold B_put
  rw [if_pos (px_ok_nI (t := 0) (a := 31) rfl hk (by decide)), nI_clamp (by omega)]
theorem wq_31 {h : pH} {v : Int32} : wu_put 31 0 v h = some (0, px_w h 31 0 v) := by
  rw [← nI_0]
  exact wp_31 (by omega)
theorem wa_32 {h : pH} {k : Nat} (hk : k < 10) : wu_at 32 (nI k) h = some (h 32 k, h) := by
  rw [wu_at_eq (a := 32) rfl (by decide), B_at_n (a := 32) rfl hk (by decide)]
theorem wz_32 {h : pH} : wu_at 32 0 h = some (h 32 0, h) := by
  rw [← nI_0]
  exact wa_32 (by omega)
theorem wm_32 {h : pH} : wu_at 32 (-1) h = some (0, h) := by
  rw [wu_at_eq (a := 32) rfl (by decide)]
  rfl
theorem wp_32 {h : pH} {k : Nat} {v : Int32} (hk : k < 10) : wu_put 32 (nI k) v h = some (0, px_w h 32 k v) := by
  rw [wu_put_eq (a := 32) rfl (by decide)]
  unfold B_put
  rw [if_pos (px_ok_nI (t := 0) (a := 32) rfl hk (by decide)), nI_clamp (by omega)]
theorem wq_32 {h : pH} {v : Int32} : wu_put 32 0 v h = some (0, px_w h 32 0 v) := by
  rw [← nI_0]
  exact wp_32 (by omega)
theorem wa_34 {h : pH} {k : Nat} (hk : k < 10) : wu_at 34 (nI k) h = some (h 34 k, h) := by
  rw [wu_at_eq (a := 34) rfl (by decide), B_at_n (a := 34) rfl hk (by decide)]
theorem wz_34 {h : pH} : wu_at 34 0 h = some (h 34 0, h) := by
  rw [← nI_0]
  exact wa_34 (by omega)
theorem wm_34 {h : pH} : wu_at 34 (-1) h = some (0, h) := by
  rw [wu_at_eq (a := 34) rfl (by decide)]
  rfl
theorem wp_34 {h : pH} {k : Nat} {v : Int32} (hk : k < 10) : wu_put 34 (nI k) v h = some (0, px_w h 34 k v) := by
  rw [wu_put_eq (a := 34) rfl (by decide)]
  unfold B_put
  rw [if_pos (px_ok_nI (t := 0) (a := 34) rfl hk (by decide)), nI_clamp (by omega)]
theorem wq_34 {h : pH} {v : Int32} : wu_put 34 0 v h = some (0, px_w h 34 0 v) := by
  rw [← nI_0]
  exact wp_34 (by omega)
theorem wa_35 {h : pH} {k : Nat} (hk : k < 4) : wu_at 35 (nI k) h = some (h 35 k, h) := by
  rw [wu_at_eq (a := 35) rfl (by decide), B_at_n (a := 35) rfl hk (by decide)]
theorem wz_35 {h : pH} : wu_at 35 0 h = some (h 35 0, h) := by
  rw [← nI_0]
  exact wa_35 (by omega)
theorem wm_35 {h : pH} : wu_at 35 (-1) h = some (0, h) := by
  rw [wu_at_eq (a := 35) rfl (by decide)]
  rfl
theorem wp_35 {h : pH} {k : Nat} {v : Int32} (hk : k < 4) : wu_put 35 (nI k) v h = some (0, px_w h 35 k v) := by
  rw [wu_put_eq (a := 35) rfl (by decide)]
  unfold B_put
  rw [if_pos (px_ok_nI (t := 0) (a := 35) rfl hk (by decide)), nI_clamp (by omega)]
theorem wq_35 {h : pH} {v : Int32} : wu_put 35 0 v h = some (0, px_w h 35 0 v) := by
  rw [← nI_0]
  exact wp_35 (by omega)
theorem wa_36 {h : pH} {k : Nat} (hk : k < 4) : wu_at 36 (nI k) h = some (h 36 k, h) := by
  rw [wu_at_eq (a := 36) rfl (by decide), B_at_n (a := 36) rfl hk (by decide)]
theorem wz_36 {h : pH} : wu_at 36 0 h = some (h 36 0, h) := by
  rw [← nI_0]
  exact wa_36 (by omega)
theorem wm_36 {h : pH} : wu_at 36 (-1) h = some (0, h) := by
  rw [wu_at_eq (a := 36) rfl (by decide)]
  rfl
theorem wp_36 {h : pH} {k : Nat} {v : Int32} (hk : k < 4) : wu_put 36 (nI k) v h = some (0, px_w h 36 k v) := by
  rw [wu_put_eq (a := 36) rfl (by decide)]
  unfold B_put
  rw [if_pos (px_ok_nI (t := 0) (a := 36) rfl hk (by decide)), nI_clamp (by omega)]
theorem wq_36 {h : pH} {v : Int32} : wu_put 36 0 v h = some (0, px_w h 36 0 v) := by
  rw [← nI_0]
  exact wp_36 (by omega)
theorem wa_37 {h : pH} {k : Nat} (hk : k < 4) : wu_at 37 (nI k) h = some (h 37 k, h) := by
  rw [wu_at_eq (a := 37) rfl (by decide), B_at_n (a := 37) rfl hk (by decide)]
theorem wz_37 {h : pH} : wu_at 37 0 h = some (h 37 0, h) := by
  rw [← nI_0]
  exact wa_37 (by omega)
theorem wm_37 {h : pH} : wu_at 37 (-1) h = some (0, h) := by
  rw [wu_at_eq (a := 37) rfl (by decide)]
  rfl
theorem wp_37 {h : pH} {k : Nat} {v : Int32} (hk : k < 4) : wu_put 37 (nI k) v h = some (0, px_w h 37 k v) := by
  rw [wu_put_eq (a := 37) rfl (by decide)]
  unfold B_put
  rw [if_pos (px_ok_nI (t := 0) (a := 37) rfl hk (by decide)), nI_clamp (by omega)]
theorem wq_37 {h : pH} {v : Int32} : wu_put 37 0 v h = some (0, px_w h 37 0 v) := by
  rw [← nI_0]
  exact wp_37 (by omega)
theorem wa_38 {h : pH} {k : Nat} (hk : k < 4) : wu_at 38 (nI k) h = some (h 38 k, h) := by
  rw [wu_at_eq (a := 38) rfl (by decide), B_at_n (a := 38) rfl hk (by decide)]
theorem wz_38 {h : pH} : wu_at 38 0 h = some (h 38 0, h) := by
  rw [← nI_0]
  exact wa_38 (by omega)
theorem wm_38 {h : pH} : wu_at 38 (-1) h = some (0, h) := by
  rw [wu_at_eq (a := 38) rfl (by decide)]
  rfl
theorem wp_38 {h : pH} {k : Nat} {v : Int32} (hk : k < 4) : wu_put 38 (nI k) v h = some (0, px_w h 38 k v) := by
  rw [wu_put_eq (a := 38) rfl (by decide)]
  unfold B_put
  rw [if_pos (px_ok_nI (t := 0) (a := 38) rfl hk (by decide)), nI_clamp (by omega)]
theorem wq_38 {h : pH} {v : Int32} : wu_put 38 0 v h = some (0, px_w h 38 0 v) := by
  rw [← nI_0]
  exact wp_38 (by omega)
theorem wa_39 {h : pH} {k : Nat} (hk : k < 4) : wu_at 39 (nI k) h = some (h 39 k, h) := by
  rw [wu_at_eq (a := 39) rfl (by decide), B_at_n (a := 39) rfl hk (by decide)]
theorem wz_39 {h : pH} : wu_at 39 0 h = some (h 39 0, h) := by
  rw [← nI_0]
  exact wa_39 (by omega)
theorem wm_39 {h : pH} : wu_at 39 (-1) h = some (0, h) := by
  rw [wu_at_eq (a := 39) rfl (by decide)]
  rfl
theorem wp_39 {h : pH} {k : Nat} {v : Int32} (hk : k < 4) : wu_put 39 (nI k) v h = some (0, px_w h 39 k v) := by
  rw [wu_put_eq (a := 39) rfl (by decide)]
  unfold B_put
  rw [if_pos (px_ok_nI (t := 0) (a := 39) rfl hk (by decide)), nI_clamp (by omega)]
theorem wq_39 {h : pH} {v : Int32} : wu_put 39 0 v h = some (0, px_w h 39 0 v) := by
  rw [← nI_0]
  exact wp_39 (by omega)
theorem wa_40 {h : pH} {k : Nat} (hk : k < 10) : wu_at 40 (nI k) h = some (h 40 k, h) := by
  rw [wu_at_eq (a := 40) rfl (by decide), B_at_n (a := 40) rfl hk (by decide)]
theorem wz_40 {h : pH} : wu_at 40 0 h = some (h 40 0, h) := by
  rw [← nI_0]
  exact wa_40 (by omega)
theorem wm_40 {h : pH} : wu_at 40 (-1) h = some (0, h) := by
  rw [wu_at_eq (a := 40) rfl (by decide)]
  rfl
theorem wp_40 {h : pH} {k : Nat} {v : Int32} (hk : k < 10) : wu_put 40 (nI k) v h = some (0, px_w h 40 k v) := by
  rw [wu_put_eq (a := 40) rfl (by decide)]
  unfold B_put
  rw [if_pos (px_ok_nI (t := 0) (a := 40) rfl hk (by decide)), nI_clamp (by omega)]
theorem wq_40 {h : pH} {v : Int32} : wu_put 40 0 v h = some (0, px_w h 40 0 v) := by
  rw [← nI_0]
  exact wp_40 (by omega)
theorem wa_42 {h : pH} {k : Nat} (hk : k < 780) : wu_at 42 (nI k) h = some (h 42 k, h) := by
  rw [wu_at_eq (a := 42) rfl (by decide), B_at_n (a := 42) rfl hk (by decide)]
theorem wz_42 {h : pH} : wu_at 42 0 h = some (h 42 0, h) := by
  rw [← nI_0]
  exact wa_42 (by omega)
theorem wm_42 {h : pH} : wu_at 42 (-1) h = some (0, h) := by
  rw [wu_at_eq (a := 42) rfl (by decide)]
  rfl
theorem wp_42 {h : pH} {k : Nat} {v : Int32} (hk : k < 780) : wu_put 42 (nI k) v h = some (0, px_w h 42 k v) := by
  rw [wu_put_eq (a := 42) rfl (by decide)]
  unfold B_put
  rw [if_pos (px_ok_nI (t := 0) (a := 42) rfl hk (by decide)), nI_clamp (by omega)]
theorem wq_42 {h : pH} {v : Int32} : wu_put 42 0 v h = some (0, px_w h 42 0 v) := by
  rw [← nI_0]
  exact wp_42 (by omega)
theorem wa_44 {h : pH} {k : Nat} (hk : k < 6) : wu_at 44 (nI k) h = some (h 44 k, h) := by
  rw [wu_at_eq (a := 44) rfl (by decide), B_at_n (a := 44) rfl hk (by decide)]
theorem wz_44 {h : pH} : wu_at 44 0 h = some (h 44 0, h) := by
  rw [← nI_0]
  exact wa_44 (by omega)
theorem wm_44 {h : pH} : wu_at 44 (-1) h = some (0, h) := by
  rw [wu_at_eq (a := 44) rfl (by decide)]
  rfl
theorem wp_44 {h : pH} {k : Nat} {v : Int32} (hk : k < 6) : wu_put 44 (nI k) v h = some (0, px_w h 44 k v) := by
  rw [wu_put_eq (a := 44) rfl (by decide)]
  unfold B_put
  rw [if_pos (px_ok_nI (t := 0) (a := 44) rfl hk (by decide)), nI_clamp (by omega)]
theorem wq_44 {h : pH} {v : Int32} : wu_put 44 0 v h = some (0, px_w h 44 0 v) := by
  rw [← nI_0]
  exact wp_44 (by omega)
theorem wa_46 {h : pH} {k : Nat} (hk : k < 10) : wu_at 46 (nI k) h = some (h 46 k, h) := by
  rw [wu_at_eq (a := 46) rfl (by decide), B_at_n (a := 46) rfl hk (by decide)]
theorem wz_46 {h : pH} : wu_at 46 0 h = some (h 46 0, h) := by
  rw [← nI_0]
  exact wa_46 (by omega)
theorem wm_46 {h : pH} : wu_at 46 (-1) h = some (0, h) := by
  rw [wu_at_eq (a := 46) rfl (by decide)]
  rfl
theorem wp_46 {h : pH} {k : Nat} {v : Int32} (hk : k < 10) : wu_put 46 (nI k) v h = some (0, px_w h 46 k v) := by
  rw [wu_put_eq (a := 46) rfl (by decide)]
  unfold B_put
  rw [if_pos (px_ok_nI (t := 0) (a := 46) rfl hk (by decide)), nI_clamp (by omega)]
theorem wq_46 {h : pH} {v : Int32} : wu_put 46 0 v h = some (0, px_w h 46 0 v) := by
  rw [← nI_0]
  exact wp_46 (by omega)
theorem wa_48 {h : pH} {k : Nat} (hk : k < 6) : wu_at 48 (nI k) h = some (h 48 k, h) := by
  rw [wu_at_eq (a := 48) rfl (by decide), B_at_n (a := 48) rfl hk (by decide)]
theorem wz_48 {h : pH} : wu_at 48 0 h = some (h 48 0, h) := by
  rw [← nI_0]
  exact wa_48 (by omega)
theorem wm_48 {h : pH} : wu_at 48 (-1) h = some (0, h) := by
  rw [wu_at_eq (a := 48) rfl (by decide)]
  rfl
theorem wp_48 {h : pH} {k : Nat} {v : Int32} (hk : k < 6) : wu_put 48 (nI k) v h = some (0, px_w h 48 k v) := by
  rw [wu_put_eq (a := 48) rfl (by decide)]
  unfold B_put
  rw [if_pos (px_ok_nI (t := 0) (a := 48) rfl hk (by decide)), nI_clamp (by omega)]
theorem wq_48 {h : pH} {v : Int32} : wu_put 48 0 v h = some (0, px_w h 48 0 v) := by
  rw [← nI_0]
  exact wp_48 (by omega)
theorem wa_49 {h : pH} {k : Nat} (hk : k < 64) : wu_at 49 (nI k) h = some (h 49 k, h) := by
  rw [wu_at_eq (a := 49) rfl (by decide), B_at_n (a := 49) rfl hk (by decide)]
theorem wz_49 {h : pH} : wu_at 49 0 h = some (h 49 0, h) := by
  rw [← nI_0]
  exact wa_49 (by omega)
theorem wm_49 {h : pH} : wu_at 49 (-1) h = some (0, h) := by
  rw [wu_at_eq (a := 49) rfl (by decide)]
  rfl
theorem wp_49 {h : pH} {k : Nat} {v : Int32} (hk : k < 64) : wu_put 49 (nI k) v h = some (0, px_w h 49 k v) := by
  rw [wu_put_eq (a := 49) rfl (by decide)]
  unfold B_put
  rw [if_pos (px_ok_nI (t := 0) (a := 49) rfl hk (by decide)), nI_clamp (by omega)]
theorem wq_49 {h : pH} {v : Int32} : wu_put 49 0 v h = some (0, px_w h 49 0 v) := by
  rw [← nI_0]
  exact wp_49 (by omega)
theorem wa_50 {h : pH} {k : Nat} (hk : k < 6) : wu_at 50 (nI k) h = some (h 50 k, h) := by
  rw [wu_at_eq (a := 50) rfl (by decide), B_at_n (a := 50) rfl hk (by decide)]
theorem wz_50 {h : pH} : wu_at 50 0 h = some (h 50 0, h) := by
  rw [← nI_0]
  exact wa_50 (by omega)
theorem wm_50 {h : pH} : wu_at 50 (-1) h = some (0, h) := by
  rw [wu_at_eq (a := 50) rfl (by decide)]
  rfl
theorem wp_50 {h : pH} {k : Nat} {v : Int32} (hk : k < 6) : wu_put 50 (nI k) v h = some (0, px_w h 50 k v) := by
  rw [wu_put_eq (a := 50) rfl (by decide)]
  unfold B_put
  rw [if_pos (px_ok_nI (t := 0) (a := 50) rfl hk (by decide)), nI_clamp (by omega)]
theorem wq_50 {h : pH} {v : Int32} : wu_put 50 0 v h = some (0, px_w h 50 0 v) := by
  rw [← nI_0]
  exact wp_50 (by omega)
theorem po_52 {k : Nat} (hk : k < 52) : px_ok 0 52 (nI k) = true := px_ok_nI (t := 0) (a := 52) rfl hk (by decide)
theorem pz_52 : px_ok 0 52 0 = true := by
  rw [← nI_0]
  exact po_52 (by omega)
theorem po_53 {k : Nat} (hk : k < 5) : px_ok 0 53 (nI k) = true := px_ok_nI (t := 0) (a := 53) rfl hk (by decide)
theorem pz_53 : px_ok 0 53 0 = true := by
  rw [← nI_0]
  exact po_53 (by omega)
theorem po_54 {k : Nat} (hk : k < 6) : px_ok 0 54 (nI k) = true := px_ok_nI (t := 0) (a := 54) rfl hk (by decide)
theorem pz_54 : px_ok 0 54 0 = true := by
  rw [← nI_0]
  exact po_54 (by omega)
theorem po_55 {k : Nat} (hk : k < 10) : px_ok 0 55 (nI k) = true := px_ok_nI (t := 0) (a := 55) rfl hk (by decide)
theorem pz_55 : px_ok 0 55 0 = true := by
  rw [← nI_0]
  exact po_55 (by omega)
theorem po_56 {k : Nat} (hk : k < 10) : px_ok 0 56 (nI k) = true := px_ok_nI (t := 0) (a := 56) rfl hk (by decide)
theorem pz_56 : px_ok 0 56 0 = true := by
  rw [← nI_0]
  exact po_56 (by omega)
theorem po_57 {k : Nat} (hk : k < 10) : px_ok 0 57 (nI k) = true := px_ok_nI (t := 0) (a := 57) rfl hk (by decide)
theorem pz_57 : px_ok 0 57 0 = true := by
  rw [← nI_0]
  exact po_57 (by omega)
theorem po_58 {k : Nat} (hk : k < 80) : px_ok 1 58 (nI k) = true := px_ok_nI (t := 1) (a := 58) rfl hk (by decide)
theorem pz_58 : px_ok 1 58 0 = true := by
  rw [← nI_0]
  exact po_58 (by omega)
theorem po_59 {k : Nat} (hk : k < 16) : px_ok 0 59 (nI k) = true := px_ok_nI (t := 0) (a := 59) rfl hk (by decide)
theorem pz_59 : px_ok 0 59 0 = true := by
  rw [← nI_0]
  exact po_59 (by omega)
theorem po_60 {k : Nat} (hk : k < 5) : px_ok 0 60 (nI k) = true := px_ok_nI (t := 0) (a := 60) rfl hk (by decide)
theorem pz_60 : px_ok 0 60 0 = true := by
  rw [← nI_0]
  exact po_60 (by omega)
theorem po_61 {k : Nat} (hk : k < 12) : px_ok 0 61 (nI k) = true := px_ok_nI (t := 0) (a := 61) rfl hk (by decide)
theorem pz_61 : px_ok 0 61 0 = true := by
  rw [← nI_0]
  exact po_61 (by omega)
theorem po_62 {k : Nat} (hk : k < 40) : px_ok 0 62 (nI k) = true := px_ok_nI (t := 0) (a := 62) rfl hk (by decide)
theorem pz_62 : px_ok 0 62 0 = true := by
  rw [← nI_0]
  exact po_62 (by omega)
theorem po_63 {k : Nat} (hk : k < 40) : px_ok 1 63 (nI k) = true := px_ok_nI (t := 1) (a := 63) rfl hk (by decide)
theorem pz_63 : px_ok 1 63 0 = true := by
  rw [← nI_0]
  exact po_63 (by omega)
theorem po_64 {k : Nat} (hk : k < 7) : px_ok 0 64 (nI k) = true := px_ok_nI (t := 0) (a := 64) rfl hk (by decide)
theorem pz_64 : px_ok 0 64 0 = true := by
  rw [← nI_0]
  exact po_64 (by omega)
theorem po_65 {k : Nat} (hk : k < 6) : px_ok 0 65 (nI k) = true := px_ok_nI (t := 0) (a := 65) rfl hk (by decide)
theorem pz_65 : px_ok 0 65 0 = true := by
  rw [← nI_0]
  exact po_65 (by omega)
theorem po_66 {k : Nat} (hk : k < 624) : px_ok 0 66 (nI k) = true := px_ok_nI (t := 0) (a := 66) rfl hk (by decide)
theorem pz_66 : px_ok 0 66 0 = true := by
  rw [← nI_0]
  exact po_66 (by omega)
theorem po_67 {k : Nat} (hk : k < 52) : px_ok 0 67 (nI k) = true := px_ok_nI (t := 0) (a := 67) rfl hk (by decide)
theorem pz_67 : px_ok 0 67 0 = true := by
  rw [← nI_0]
  exact po_67 (by omega)
theorem po_68 {k : Nat} (hk : k < 52) : px_ok 0 68 (nI k) = true := px_ok_nI (t := 0) (a := 68) rfl hk (by decide)
theorem pz_68 : px_ok 0 68 0 = true := by
  rw [← nI_0]
  exact po_68 (by omega)
theorem po_69 {k : Nat} (hk : k < 880) : px_ok 0 69 (nI k) = true := px_ok_nI (t := 0) (a := 69) rfl hk (by decide)
theorem pz_69 : px_ok 0 69 0 = true := by
  rw [← nI_0]
  exact po_69 (by omega)
theorem po_70 {k : Nat} (hk : k < 52) : px_ok 0 70 (nI k) = true := px_ok_nI (t := 0) (a := 70) rfl hk (by decide)
theorem pz_70 : px_ok 0 70 0 = true := by
  rw [← nI_0]
  exact po_70 (by omega)
theorem po_71 {k : Nat} (hk : k < 10) : px_ok 0 71 (nI k) = true := px_ok_nI (t := 0) (a := 71) rfl hk (by decide)
theorem pz_71 : px_ok 0 71 0 = true := by
  rw [← nI_0]
  exact po_71 (by omega)
theorem po_72 {k : Nat} (hk : k < 3) : px_ok 0 72 (nI k) = true := px_ok_nI (t := 0) (a := 72) rfl hk (by decide)
theorem pz_72 : px_ok 0 72 0 = true := by
  rw [← nI_0]
  exact po_72 (by omega)
theorem po_73 {k : Nat} (hk : k < 3) : px_ok 0 73 (nI k) = true := px_ok_nI (t := 0) (a := 73) rfl hk (by decide)
theorem pz_73 : px_ok 0 73 0 = true := by
  rw [← nI_0]
  exact po_73 (by omega)
theorem po_74 {k : Nat} (hk : k < 52) : px_ok 0 74 (nI k) = true := px_ok_nI (t := 0) (a := 74) rfl hk (by decide)
theorem pz_74 : px_ok 0 74 0 = true := by
  rw [← nI_0]
  exact po_74 (by omega)
theorem po_75 {k : Nat} (hk : k < 6) : px_ok 0 75 (nI k) = true := px_ok_nI (t := 0) (a := 75) rfl hk (by decide)
theorem pz_75 : px_ok 0 75 0 = true := by
  rw [← nI_0]
  exact po_75 (by omega)
theorem po_76 {k : Nat} (hk : k < 6) : px_ok 0 76 (nI k) = true := px_ok_nI (t := 0) (a := 76) rfl hk (by decide)
theorem pz_76 : px_ok 0 76 0 = true := by
  rw [← nI_0]
  exact po_76 (by omega)
theorem po_77 {k : Nat} (hk : k < 36) : px_ok 3 77 (nI k) = true := px_ok_nI (t := 3) (a := 77) rfl hk (by decide)
theorem pz_77 : px_ok 3 77 0 = true := by
  rw [← nI_0]
  exact po_77 (by omega)
theorem po_78 {k : Nat} (hk : k < 52) : px_ok 0 78 (nI k) = true := px_ok_nI (t := 0) (a := 78) rfl hk (by decide)
theorem pz_78 : px_ok 0 78 0 = true := by
  rw [← nI_0]
  exact po_78 (by omega)
theorem po_79 {k : Nat} (hk : k < 104) : px_ok 0 79 (nI k) = true := px_ok_nI (t := 0) (a := 79) rfl hk (by decide)
theorem pz_79 : px_ok 0 79 0 = true := by
  rw [← nI_0]
  exact po_79 (by omega)
theorem po_80 {k : Nat} (hk : k < 2) : px_ok 3 80 (nI k) = true := px_ok_nI (t := 3) (a := 80) rfl hk (by decide)
theorem pz_80 : px_ok 3 80 0 = true := by
  rw [← nI_0]
  exact po_80 (by omega)
theorem po_81 {k : Nat} (hk : k < 2) : px_ok 0 81 (nI k) = true := px_ok_nI (t := 0) (a := 81) rfl hk (by decide)
theorem pz_81 : px_ok 0 81 0 = true := by
  rw [← nI_0]
  exact po_81 (by omega)
