/-! printed by gen/emit.py: what a walk from each cut point asks -/
def FX2_add_0 (d : Nat) (K : Shp) (H : Mem) (q : Int → Mem → Prop) (v0 : Int) (v1 : Int) (v2 : Int) : Prop := Fr mX2_add d 0 0 none 0 [(0, (2, v0)), (1, (0, v1)), (2, (0, v2))] [] K H (qi K q)
set_option maxHeartbeats 4000000 in
set_option maxRecDepth 20000 in
theorem bX2_add_0 {d : Nat} {K : Shp} {H : Mem} {q : Int → Mem → Prop} {v0 v1 v2 : Int} (h : ((0 : Int) ≤ v0) ∧ (K[(v0 : Int).toNat]? = some (2, 3)) ∧ ((0 : Int) ≤ (H (v0 : Int).toNat 1)) ∧ ∃ n4 : Nat, (K[((H (v0 : Int).toNat 1) : Int).toNat]? = some (20, n4)) ∧ ((0 : Int) ≤ (H (v0 : Int).toNat 0)) ∧ (((H (v0 : Int).toNat 0) : Int) < n4) ∧ ∀ H8 : Mem, H8 = upA H ((H (v0 : Int).toNat 1) : Int).toNat (up1 (H ((H (v0 : Int).toNat 1) : Int).toNat) ((H (v0 : Int).toNat 0) : Int).toNat v1) → ((0 : Int) ≤ (H8 (v0 : Int).toNat 2)) ∧ ∃ n10 : Nat, (K[((H8 (v0 : Int).toNat 2) : Int).toNat]? = some (20, n10)) ∧ ((0 : Int) ≤ (H8 (v0 : Int).toNat 0)) ∧ (((H8 (v0 : Int).toNat 0) : Int) < n10) ∧ ∀ H14 : Mem, H14 = upA H8 ((H8 (v0 : Int).toNat 2) : Int).toNat (up1 (H8 ((H8 (v0 : Int).toNat 2) : Int).toNat) ((H8 (v0 : Int).toNat 0) : Int).toNat v2) → (inI ((H14 (v0 : Int).toNat 0) + 1)) ∧ ∀ H16 : Mem, H16 = upA H14 (v0 : Int).toNat (up1 (H14 (v0 : Int).toNat) 0 ((H14 (v0 : Int).toNat 0) + 1)) → (inI ((H16 (v0 : Int).toNat 0) - 1)) ∧ q ((H16 (v0 : Int).toNat 0) - 1) H16) : FX2_add_0 d K H q (v0) (v1) (v2) := by
  unfold FX2_add_0
  refine r_aload_n 0 dX2_add_0 rfl rfl ?_
  obtain ⟨h1, h⟩ := h
  obtain ⟨h2, h⟩ := h
  refine r_getf cls2 1 dX2_add_1 (by decide) fl_RX2_15 rfl h1 h2 ?_
  refine r_aload_n 0 dX2_add_4 rfl rfl ?_
  refine r_getf cls2 0 dX2_add_5 (by decide) fl_RX2_9 rfl h1 h2 ?_
  refine r_iload_n 1 dX2_add_8 rfl rfl ?_
  obtain ⟨h3, h⟩ := h
  obtain ⟨n4, h⟩ := h
  obtain ⟨h5, h⟩ := h
  obtain ⟨h6, h⟩ := h
  obtain ⟨h7, h⟩ := h
  refine r_iast n4 dX2_add_9 h3 h5 h6 h7 ?_
  replace h := h _ rfl
  generalize upA H ((H (v0 : Int).toNat 1) : Int).toNat (up1 (H ((H (v0 : Int).toNat 1) : Int).toNat) ((H (v0 : Int).toNat 0) : Int).toNat v1) = H8 at h ⊢
  refine r_aload_n 0 dX2_add_10 rfl rfl ?_
  refine r_getf cls2 2 dX2_add_11 (by decide) fl_RX2_19 rfl h1 h2 ?_
  refine r_aload_n 0 dX2_add_14 rfl rfl ?_
  refine r_getf cls2 0 dX2_add_15 (by decide) fl_RX2_9 rfl h1 h2 ?_
  refine r_iload_n 2 dX2_add_18 rfl rfl ?_
  obtain ⟨h9, h⟩ := h
  obtain ⟨n10, h⟩ := h
  obtain ⟨h11, h⟩ := h
  obtain ⟨h12, h⟩ := h
  obtain ⟨h13, h⟩ := h
  refine r_iast n10 dX2_add_19 h9 h11 h12 h13 ?_
  replace h := h _ rfl
  generalize upA H8 ((H8 (v0 : Int).toNat 2) : Int).toNat (up1 (H8 ((H8 (v0 : Int).toNat 2) : Int).toNat) ((H8 (v0 : Int).toNat 0) : Int).toNat v2) = H14 at h ⊢
  refine r_aload_n 0 dX2_add_20 rfl rfl ?_
  refine r_dup dX2_add_21 (show (2 : Nat) ≠ 1 by decide) ?_
  refine r_getf cls2 0 dX2_add_22 (by decide) fl_RX2_9 rfl h1 h2 ?_
  refine r_iconst dX2_add_25 (by decide) (by decide) ?_
  obtain ⟨h15, h⟩ := h
  refine r_iadd dX2_add_26 h15 ?_
  refine r_putf cls2 0 dX2_add_27 (by decide) rfl fl_RX2_9 rfl h1 h2 (fun o => o) ?_
  replace h := h _ rfl
  generalize upA H14 (v0 : Int).toNat (up1 (H14 (v0 : Int).toNat) 0 ((H14 (v0 : Int).toNat 0) + 1)) = H16 at h ⊢
  refine r_aload_n 0 dX2_add_30 rfl rfl ?_
  refine r_getf cls2 0 dX2_add_31 (by decide) fl_RX2_9 rfl h1 h2 ?_
  refine r_iconst dX2_add_34 (by decide) (by decide) ?_
  obtain ⟨h17, h⟩ := h
  refine r_isub dX2_add_35 h17 ?_
  exact r_iret dX2_add_36 rfl ⟨rfl, _, rfl, h⟩
set_option maxHeartbeats 4000000 in
set_option maxRecDepth 20000 in
theorem eX2_add {d : Nat} {K : Shp} {H : Mem} {q : Int → Mem → Prop} {v0 v1 v2 : Int} (h : inI v1 → inI v2 → Rng K H → FX2_add_0 d K H q v0 v1 v2) : Ci mX2_add d [(2, v0), (0, v1), (0, v2)] K H q := Call.of rfl (Nat.le_of_ble_eq_true rfl) (fun o r => h (o (0, v1) (by simp)) (o (0, v2) (by simp)) r)
