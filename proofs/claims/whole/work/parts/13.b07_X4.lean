/-! printed by gen/emit.py: what a walk from each cut point asks -/
def FX4_begin_0 (d : Nat) (K : Shp) (H : Mem) (q : Mem → Prop) (v0 : Int) (v1 : Int) (v2 : Int) : Prop := Fr mX4_begin (d + 1) 0 0 none 0 [(0, (2, v0)), (1, (0, v1)), (2, (0, v2))] [] K H (qv K q)
set_option maxHeartbeats 4000000 in
set_option maxRecDepth 20000 in
theorem bX4_begin_0 {d : Nat} {K : Shp} {H : Mem} {q : Mem → Prop} {v0 v1 v2 : Int} (h : ((0 : Int) ≤ v0) ∧ (K[(v0 : Int).toNat]? = some (4, 18)) ∧ ∀ H3 : Mem, H3 = upA H (v0 : Int).toNat (up1 (H (v0 : Int).toNat) 0 v1) → ∀ H4 : Mem, H4 = upA H3 (v0 : Int).toNat (up1 (H3 (v0 : Int).toNat) 1 v2) → ∀ H5 : Mem, H5 = upA H4 (v0 : Int).toNat (up1 (H4 (v0 : Int).toNat) 3 0) → ∀ H6 : Mem, H6 = upA H5 (v0 : Int).toNat (up1 (H5 (v0 : Int).toNat) 7 0) → Cv mX4_findEdges d [(2, v0)] K H6 (fun H7 => q H7)) : FX4_begin_0 d K H q (v0) (v1) (v2) := by
  unfold FX4_begin_0
  refine r_aload_n 0 dX4_begin_0 rfl rfl ?_
  refine r_iload_n 1 dX4_begin_1 rfl rfl ?_
  obtain ⟨h1, h⟩ := h
  obtain ⟨h2, h⟩ := h
  refine r_putf cls4 0 dX4_begin_2 (by decide) rfl fl_RX4_54 rfl h1 h2 (fun o => o) ?_
  replace h := h _ rfl
  generalize upA H (v0 : Int).toNat (up1 (H (v0 : Int).toNat) 0 v1) = H3 at h ⊢
  refine r_aload_n 0 dX4_begin_5 rfl rfl ?_
  refine r_iload_n 2 dX4_begin_6 rfl rfl ?_
  refine r_putf cls4 1 dX4_begin_7 (by decide) rfl fl_RX4_57 rfl h1 h2 (fun o => o) ?_
  replace h := h _ rfl
  generalize upA H3 (v0 : Int).toNat (up1 (H3 (v0 : Int).toNat) 1 v2) = H4 at h ⊢
  refine r_aload_n 0 dX4_begin_10 rfl rfl ?_
  refine r_iconst dX4_begin_11 (by decide) (by decide) ?_
  refine r_putf cls4 3 dX4_begin_12 (by decide) rfl fl_RX4_60 rfl h1 h2 (fun o => o) ?_
  replace h := h _ rfl
  generalize upA H4 (v0 : Int).toNat (up1 (H4 (v0 : Int).toNat) 3 0) = H5 at h ⊢
  refine r_aload_n 0 dX4_begin_15 rfl rfl ?_
  refine r_iconst dX4_begin_16 (by decide) (by decide) ?_
  refine r_putf cls4 7 dX4_begin_17 (by decide) rfl fl_RX4_63 rfl h1 h2 (fun o => o) ?_
  replace h := h _ rfl
  generalize upA H5 (v0 : Int).toNat (up1 (H5 (v0 : Int).toNat) 7 0) = H6 at h ⊢
  refine r_aload_n 0 dX4_begin_20 rfl rfl ?_
  refine r_invV (M := mX4_begin) (As := []) (st := []) (X := v0) (mc := 0) (ms := 0) (fc := 0) (fs := 0) h ok_X4_findEdges cls4 im_X4_findEdges se_X4_findEdges ml_RX4_66 dX4_begin_21 rfl h1 h2 (Nat.le_of_ble_eq_true rfl) rfl ?_
  rintro r K1 H7 ⟨rfl, rfl, h⟩ -
  show Fr mX4_begin (d + 1) 0 0 none 24 [(0, (2, v0)), (1, (0, v1)), (2, (0, v2))] [] _ H7 _
  exact r_vret dX4_begin_24 rfl ⟨rfl, rfl, h⟩
set_option maxHeartbeats 4000000 in
set_option maxRecDepth 20000 in
theorem eX4_begin {d : Nat} {K : Shp} {H : Mem} {q : Mem → Prop} {v0 v1 v2 : Int} (h : inI v1 → inI v2 → Rng K H → FX4_begin_0 d K H q v0 v1 v2) : Cv mX4_begin (d + 1) [(2, v0), (0, v1), (0, v2)] K H q := Call.of rfl (Nat.le_of_ble_eq_true rfl) (fun o r => h (o (0, v1) (by simp)) (o (0, v2) (by simp)) r)
def FX4_addBand_0 (d : Nat) (K : Shp) (H : Mem) (q : Int → Mem → Prop) (v0 : Int) (v1 : Int) (v2 : Int) (v3 : Int) : Prop := Fr mX4_addBand (d + 1) 0 0 none 0 [(0, (2, v0)), (1, (0, v1)), (2, (0, v2)), (3, (0, v3))] [] K H (qi K q)
set_option maxHeartbeats 4000000 in
set_option maxRecDepth 20000 in
theorem bX4_addBand_0 {d : Nat} {K : Shp} {H : Mem} {q : Int → Mem → Prop} {v0 v1 v2 v3 : Int} (h : ((0 : Int) ≤ v0) ∧ (K[(v0 : Int).toNat]? = some (4, 18)) ∧ ((0 : Int) ≤ (H (v0 : Int).toNat 4)) ∧ ∃ n4 : Nat, (K[((H (v0 : Int).toNat 4) : Int).toNat]? = some (20, n4)) ∧ ((0 : Int) ≤ (H (v0 : Int).toNat 3)) ∧ (((H (v0 : Int).toNat 3) : Int) < n4) ∧ ∀ H8 : Mem, H8 = upA H ((H (v0 : Int).toNat 4) : Int).toNat (up1 (H ((H (v0 : Int).toNat 4) : Int).toNat) ((H (v0 : Int).toNat 3) : Int).toNat v1) → ((0 : Int) ≤ (H8 (v0 : Int).toNat 5)) ∧ ∃ n10 : Nat, (K[((H8 (v0 : Int).toNat 5) : Int).toNat]? = some (20, n10)) ∧ ((0 : Int) ≤ (H8 (v0 : Int).toNat 3)) ∧ (((H8 (v0 : Int).toNat 3) : Int) < n10) ∧ ∀ H14 : Mem, H14 = upA H8 ((H8 (v0 : Int).toNat 5) : Int).toNat (up1 (H8 ((H8 (v0 : Int).toNat 5) : Int).toNat) ((H8 (v0 : Int).toNat 3) : Int).toNat v2) → ((0 : Int) ≤ (H14 (v0 : Int).toNat 6)) ∧ ∃ n16 : Nat, (K[((H14 (v0 : Int).toNat 6) : Int).toNat]? = some (20, n16)) ∧ ((0 : Int) ≤ (H14 (v0 : Int).toNat 3)) ∧ (((H14 (v0 : Int).toNat 3) : Int) < n16) ∧ ∀ H20 : Mem, H20 = upA H14 ((H14 (v0 : Int).toNat 6) : Int).toNat (up1 (H14 ((H14 (v0 : Int).toNat 6) : Int).toNat) ((H14 (v0 : Int).toNat 3) : Int).toNat v3) → (inI ((H20 (v0 : Int).toNat 3) + 1)) ∧ ∀ H22 : Mem, H22 = upA H20 (v0 : Int).toNat (up1 (H20 (v0 : Int).toNat) 3 ((H20 (v0 : Int).toNat 3) + 1)) → Cv mX4_findEdges d [(2, v0)] K H22 (fun H23 => (inI ((H23 (v0 : Int).toNat 3) - 1)) ∧ q ((H23 (v0 : Int).toNat 3) - 1) H23)) : FX4_addBand_0 d K H q (v0) (v1) (v2) (v3) := by
  unfold FX4_addBand_0
  refine r_aload_n 0 dX4_addBand_0 rfl rfl ?_
  obtain ⟨h1, h⟩ := h
  obtain ⟨h2, h⟩ := h
  refine r_getf cls4 4 dX4_addBand_1 (by decide) fl_RX4_9 rfl h1 h2 ?_
  refine r_aload_n 0 dX4_addBand_4 rfl rfl ?_
  refine r_getf cls4 3 dX4_addBand_5 (by decide) fl_RX4_60 rfl h1 h2 ?_
  refine r_iload_n 1 dX4_addBand_8 rfl rfl ?_
  obtain ⟨h3, h⟩ := h
  obtain ⟨n4, h⟩ := h
  obtain ⟨h5, h⟩ := h
  obtain ⟨h6, h⟩ := h
  obtain ⟨h7, h⟩ := h
  refine r_iast n4 dX4_addBand_9 h3 h5 h6 h7 ?_
  replace h := h _ rfl
  generalize upA H ((H (v0 : Int).toNat 4) : Int).toNat (up1 (H ((H (v0 : Int).toNat 4) : Int).toNat) ((H (v0 : Int).toNat 3) : Int).toNat v1) = H8 at h ⊢
  refine r_aload_n 0 dX4_addBand_10 rfl rfl ?_
  refine r_getf cls4 5 dX4_addBand_11 (by decide) fl_RX4_15 rfl h1 h2 ?_
  refine r_aload_n 0 dX4_addBand_14 rfl rfl ?_
  refine r_getf cls4 3 dX4_addBand_15 (by decide) fl_RX4_60 rfl h1 h2 ?_
  refine r_iload_n 2 dX4_addBand_18 rfl rfl ?_
  obtain ⟨h9, h⟩ := h
  obtain ⟨n10, h⟩ := h
  obtain ⟨h11, h⟩ := h
  obtain ⟨h12, h⟩ := h
  obtain ⟨h13, h⟩ := h
  refine r_iast n10 dX4_addBand_19 h9 h11 h12 h13 ?_
  replace h := h _ rfl
  generalize upA H8 ((H8 (v0 : Int).toNat 5) : Int).toNat (up1 (H8 ((H8 (v0 : Int).toNat 5) : Int).toNat) ((H8 (v0 : Int).toNat 3) : Int).toNat v2) = H14 at h ⊢
  refine r_aload_n 0 dX4_addBand_20 rfl rfl ?_
  refine r_getf cls4 6 dX4_addBand_21 (by decide) fl_RX4_18 rfl h1 h2 ?_
  refine r_aload_n 0 dX4_addBand_24 rfl rfl ?_
  refine r_getf cls4 3 dX4_addBand_25 (by decide) fl_RX4_60 rfl h1 h2 ?_
  refine r_iload_n 3 dX4_addBand_28 rfl rfl ?_
  obtain ⟨h15, h⟩ := h
  obtain ⟨n16, h⟩ := h
  obtain ⟨h17, h⟩ := h
  obtain ⟨h18, h⟩ := h
  obtain ⟨h19, h⟩ := h
  refine r_iast n16 dX4_addBand_29 h15 h17 h18 h19 ?_
  replace h := h _ rfl
  generalize upA H14 ((H14 (v0 : Int).toNat 6) : Int).toNat (up1 (H14 ((H14 (v0 : Int).toNat 6) : Int).toNat) ((H14 (v0 : Int).toNat 3) : Int).toNat v3) = H20 at h ⊢
  refine r_aload_n 0 dX4_addBand_30 rfl rfl ?_
  refine r_dup dX4_addBand_31 (show (2 : Nat) ≠ 1 by decide) ?_
  refine r_getf cls4 3 dX4_addBand_32 (by decide) fl_RX4_60 rfl h1 h2 ?_
  refine r_iconst dX4_addBand_35 (by decide) (by decide) ?_
  obtain ⟨h21, h⟩ := h
  refine r_iadd dX4_addBand_36 h21 ?_
  refine r_putf cls4 3 dX4_addBand_37 (by decide) rfl fl_RX4_60 rfl h1 h2 (fun o => o) ?_
  replace h := h _ rfl
  generalize upA H20 (v0 : Int).toNat (up1 (H20 (v0 : Int).toNat) 3 ((H20 (v0 : Int).toNat 3) + 1)) = H22 at h ⊢
  refine r_aload_n 0 dX4_addBand_40 rfl rfl ?_
  refine r_invV (M := mX4_addBand) (As := []) (st := []) (X := v0) (mc := 0) (ms := 0) (fc := 0) (fs := 0) h ok_X4_findEdges cls4 im_X4_findEdges se_X4_findEdges ml_RX4_66 dX4_addBand_41 rfl h1 h2 (Nat.le_of_ble_eq_true rfl) rfl ?_
  rintro r K1 H23 ⟨rfl, rfl, h⟩ -
  show Fr mX4_addBand (d + 1) 0 0 none 44 [(0, (2, v0)), (1, (0, v1)), (2, (0, v2)), (3, (0, v3))] [] _ H23 _
  refine r_aload_n 0 dX4_addBand_44 rfl rfl ?_
  refine r_getf cls4 3 dX4_addBand_45 (by decide) fl_RX4_60 rfl h1 h2 ?_
  refine r_iconst dX4_addBand_48 (by decide) (by decide) ?_
  obtain ⟨h25, h⟩ := h
  refine r_isub dX4_addBand_49 h25 ?_
  exact r_iret dX4_addBand_50 rfl ⟨rfl, _, rfl, h⟩
set_option maxHeartbeats 4000000 in
set_option maxRecDepth 20000 in
theorem eX4_addBand {d : Nat} {K : Shp} {H : Mem} {q : Int → Mem → Prop} {v0 v1 v2 v3 : Int} (h : inI v1 → inI v2 → inI v3 → Rng K H → FX4_addBand_0 d K H q v0 v1 v2 v3) : Ci mX4_addBand (d + 1) [(2, v0), (0, v1), (0, v2), (0, v3)] K H q := Call.of rfl (Nat.le_of_ble_eq_true rfl) (fun o r => h (o (0, v1) (by simp)) (o (0, v2) (by simp)) (o (0, v3) (by simp)) r)
def FX4_addRod_0 (d : Nat) (K : Shp) (H : Mem) (q : Int → Mem → Prop) (v0 : Int) (v1 : Int) (v2 : Int) : Prop := Fr mX4_addRod (d + 1) 0 0 none 0 [(0, (2, v0)), (1, (0, v1)), (2, (0, v2))] [] K H (qi K q)
set_option maxHeartbeats 4000000 in
set_option maxRecDepth 20000 in
theorem bX4_addRod_0 {d : Nat} {K : Shp} {H : Mem} {q : Int → Mem → Prop} {v0 v1 v2 : Int} (h : ((0 : Int) ≤ v0) ∧ (K[(v0 : Int).toNat]? = some (4, 18)) ∧ ((0 : Int) ≤ (H (v0 : Int).toNat 8)) ∧ ∃ n4 : Nat, (K[((H (v0 : Int).toNat 8) : Int).toNat]? = some (20, n4)) ∧ ((0 : Int) ≤ (H (v0 : Int).toNat 7)) ∧ (((H (v0 : Int).toNat 7) : Int) < n4) ∧ ∀ H8 : Mem, H8 = upA H ((H (v0 : Int).toNat 8) : Int).toNat (up1 (H ((H (v0 : Int).toNat 8) : Int).toNat) ((H (v0 : Int).toNat 7) : Int).toNat v1) → ((0 : Int) ≤ (H8 (v0 : Int).toNat 9)) ∧ ∃ n10 : Nat, (K[((H8 (v0 : Int).toNat 9) : Int).toNat]? = some (20, n10)) ∧ ((0 : Int) ≤ (H8 (v0 : Int).toNat 7)) ∧ (((H8 (v0 : Int).toNat 7) : Int) < n10) ∧ ∀ H14 : Mem, H14 = upA H8 ((H8 (v0 : Int).toNat 9) : Int).toNat (up1 (H8 ((H8 (v0 : Int).toNat 9) : Int).toNat) ((H8 (v0 : Int).toNat 7) : Int).toNat v2) → (inI ((H14 (v0 : Int).toNat 7) + 1)) ∧ ∀ H16 : Mem, H16 = upA H14 (v0 : Int).toNat (up1 (H14 (v0 : Int).toNat) 7 ((H14 (v0 : Int).toNat 7) + 1)) → Cv mX4_findEdges d [(2, v0)] K H16 (fun H17 => (inI ((H17 (v0 : Int).toNat 7) - 1)) ∧ q ((H17 (v0 : Int).toNat 7) - 1) H17)) : FX4_addRod_0 d K H q (v0) (v1) (v2) := by
  unfold FX4_addRod_0
  refine r_aload_n 0 dX4_addRod_0 rfl rfl ?_
  obtain ⟨h1, h⟩ := h
  obtain ⟨h2, h⟩ := h
  refine r_getf cls4 8 dX4_addRod_1 (by decide) fl_RX4_21 rfl h1 h2 ?_
  refine r_aload_n 0 dX4_addRod_4 rfl rfl ?_
  refine r_getf cls4 7 dX4_addRod_5 (by decide) fl_RX4_63 rfl h1 h2 ?_
  refine r_iload_n 1 dX4_addRod_8 rfl rfl ?_
  obtain ⟨h3, h⟩ := h
  obtain ⟨n4, h⟩ := h
  obtain ⟨h5, h⟩ := h
  obtain ⟨h6, h⟩ := h
  obtain ⟨h7, h⟩ := h
  refine r_iast n4 dX4_addRod_9 h3 h5 h6 h7 ?_
  replace h := h _ rfl
  generalize upA H ((H (v0 : Int).toNat 8) : Int).toNat (up1 (H ((H (v0 : Int).toNat 8) : Int).toNat) ((H (v0 : Int).toNat 7) : Int).toNat v1) = H8 at h ⊢
  refine r_aload_n 0 dX4_addRod_10 rfl rfl ?_
  refine r_getf cls4 9 dX4_addRod_11 (by decide) fl_RX4_24 rfl h1 h2 ?_
  refine r_aload_n 0 dX4_addRod_14 rfl rfl ?_
  refine r_getf cls4 7 dX4_addRod_15 (by decide) fl_RX4_63 rfl h1 h2 ?_
  refine r_iload_n 2 dX4_addRod_18 rfl rfl ?_
  obtain ⟨h9, h⟩ := h
  obtain ⟨n10, h⟩ := h
  obtain ⟨h11, h⟩ := h
  obtain ⟨h12, h⟩ := h
  obtain ⟨h13, h⟩ := h
  refine r_iast n10 dX4_addRod_19 h9 h11 h12 h13 ?_
  replace h := h _ rfl
  generalize upA H8 ((H8 (v0 : Int).toNat 9) : Int).toNat (up1 (H8 ((H8 (v0 : Int).toNat 9) : Int).toNat) ((H8 (v0 : Int).toNat 7) : Int).toNat v2) = H14 at h ⊢
  refine r_aload_n 0 dX4_addRod_20 rfl rfl ?_
  refine r_dup dX4_addRod_21 (show (2 : Nat) ≠ 1 by decide) ?_
  refine r_getf cls4 7 dX4_addRod_22 (by decide) fl_RX4_63 rfl h1 h2 ?_
  refine r_iconst dX4_addRod_25 (by decide) (by decide) ?_
  obtain ⟨h15, h⟩ := h
  refine r_iadd dX4_addRod_26 h15 ?_
  refine r_putf cls4 7 dX4_addRod_27 (by decide) rfl fl_RX4_63 rfl h1 h2 (fun o => o) ?_
  replace h := h _ rfl
  generalize upA H14 (v0 : Int).toNat (up1 (H14 (v0 : Int).toNat) 7 ((H14 (v0 : Int).toNat 7) + 1)) = H16 at h ⊢
  refine r_aload_n 0 dX4_addRod_30 rfl rfl ?_
  refine r_invV (M := mX4_addRod) (As := []) (st := []) (X := v0) (mc := 0) (ms := 0) (fc := 0) (fs := 0) h ok_X4_findEdges cls4 im_X4_findEdges se_X4_findEdges ml_RX4_66 dX4_addRod_31 rfl h1 h2 (Nat.le_of_ble_eq_true rfl) rfl ?_
  rintro r K1 H17 ⟨rfl, rfl, h⟩ -
  show Fr mX4_addRod (d + 1) 0 0 none 34 [(0, (2, v0)), (1, (0, v1)), (2, (0, v2))] [] _ H17 _
  refine r_aload_n 0 dX4_addRod_34 rfl rfl ?_
  refine r_getf cls4 7 dX4_addRod_35 (by decide) fl_RX4_63 rfl h1 h2 ?_
  refine r_iconst dX4_addRod_38 (by decide) (by decide) ?_
  obtain ⟨h19, h⟩ := h
  refine r_isub dX4_addRod_39 h19 ?_
  exact r_iret dX4_addRod_40 rfl ⟨rfl, _, rfl, h⟩
set_option maxHeartbeats 4000000 in
set_option maxRecDepth 20000 in
theorem eX4_addRod {d : Nat} {K : Shp} {H : Mem} {q : Int → Mem → Prop} {v0 v1 v2 : Int} (h : inI v1 → inI v2 → Rng K H → FX4_addRod_0 d K H q v0 v1 v2) : Ci mX4_addRod (d + 1) [(2, v0), (0, v1), (0, v2)] K H q := Call.of rfl (Nat.le_of_ble_eq_true rfl) (fun o r => h (o (0, v1) (by simp)) (o (0, v2) (by simp)) r)
def FX4_area_0 (d : Nat) (K : Shp) (H : Mem) (q : Int → Mem → Prop) (v0 : Int) : Prop := Fr mX4_area d 0 0 none 0 [(0, (2, v0))] [] K H (qi K q)
def FX4_area_4 (d : Nat) (K : Shp) (H : Mem) (q : Int → Mem → Prop) (v0 : Int) (v1 : Int) (v2 : Int) : Prop := Fr mX4_area d 0 0 none 4 [(0, (2, v0)), (1, (0, v1)), (2, (0, v2))] [] K H (qi K q)
set_option maxHeartbeats 4000000 in
set_option maxRecDepth 20000 in
theorem bX4_area_0 {d : Nat} {K : Shp} {H : Mem} {q : Int → Mem → Prop} {v0 : Int} (h : FX4_area_4 d K H q (v0) (0) (0)) : FX4_area_0 d K H q (v0) := by
  unfold FX4_area_0
  refine r_iconst dX4_area_0 (by decide) (by decide) ?_
  refine r_istore_n dX4_area_1 rfl (by decide) rfl ?_
  refine r_iconst dX4_area_2 (by decide) (by decide) ?_
  refine r_istore_n dX4_area_3 rfl (by decide) rfl ?_
  refine Fr.fewer [2, 1, 0] rfl ?_
  exact h
set_option maxHeartbeats 4000000 in
set_option maxRecDepth 20000 in
theorem bX4_area_4 {d : Nat} {K : Shp} {H : Mem} {q : Int → Mem → Prop} {v0 v1 v2 : Int} (h : ((0 : Int) ≤ v0) ∧ (K[(v0 : Int).toNat]? = some (4, 18)) ∧ ((¬ (v2 : Int) < (H (v0 : Int).toNat 3) → q v1 H) ∧ ((v2 : Int) < (H (v0 : Int).toNat 3) → ((0 : Int) ≤ (H (v0 : Int).toNat 4)) ∧ ∃ n5 : Nat, (K[((H (v0 : Int).toNat 4) : Int).toNat]? = some (20, n5)) ∧ ((0 : Int) ≤ v2) ∧ ((v2 : Int) < n5) ∧ ((0 : Int) ≤ (H (v0 : Int).toNat 6)) ∧ ∃ n10 : Nat, (K[((H (v0 : Int).toNat 6) : Int).toNat]? = some (20, n10)) ∧ ((v2 : Int) < n10) ∧ ((0 : Int) ≤ (H (v0 : Int).toNat 5)) ∧ ∃ n14 : Nat, (K[((H (v0 : Int).toNat 5) : Int).toNat]? = some (20, n14)) ∧ ((v2 : Int) < n14) ∧ (inI ((H ((H (v0 : Int).toNat 6) : Int).toNat (v2 : Int).toNat) - (H ((H (v0 : Int).toNat 5) : Int).toNat (v2 : Int).toNat))) ∧ (inI ((H ((H (v0 : Int).toNat 4) : Int).toNat (v2 : Int).toNat) * ((H ((H (v0 : Int).toNat 6) : Int).toNat (v2 : Int).toNat) - (H ((H (v0 : Int).toNat 5) : Int).toNat (v2 : Int).toNat)))) ∧ (inI (v1 + ((H ((H (v0 : Int).toNat 4) : Int).toNat (v2 : Int).toNat) * ((H ((H (v0 : Int).toNat 6) : Int).toNat (v2 : Int).toNat) - (H ((H (v0 : Int).toNat 5) : Int).toNat (v2 : Int).toNat))))) ∧ (inI (v2 + 1)) ∧ FX4_area_4 d K H q (v0) ((v1 + ((H ((H (v0 : Int).toNat 4) : Int).toNat (v2 : Int).toNat) * ((H ((H (v0 : Int).toNat 6) : Int).toNat (v2 : Int).toNat) - (H ((H (v0 : Int).toNat 5) : Int).toNat (v2 : Int).toNat))))) ((v2 + 1))))) : FX4_area_4 d K H q (v0) (v1) (v2) := by
  unfold FX4_area_4
  refine r_iload_n 2 dX4_area_4 rfl rfl ?_
  refine r_aload_n 0 dX4_area_5 rfl rfl ?_
  obtain ⟨h1, h⟩ := h
  obtain ⟨h2, h⟩ := h
  refine r_getf cls4 3 dX4_area_6 (by decide) fl_RX4_60 rfl h1 h2 ?_
  refine r_icmp_ge (tgt := 41) dX4_area_9 (by decide) (fun c3 => ?_) (fun c3 => ?_)
  · replace h := h.1 c3
    refine r_iload_n 1 dX4_area_41 rfl rfl ?_
    exact r_iret dX4_area_42 rfl ⟨rfl, _, rfl, h⟩
  · replace h := h.2 c3
    refine r_iload_n 1 dX4_area_12 rfl rfl ?_
    refine r_aload_n 0 dX4_area_13 rfl rfl ?_
    refine r_getf cls4 4 dX4_area_14 (by decide) fl_RX4_9 rfl h1 h2 ?_
    refine r_iload_n 2 dX4_area_17 rfl rfl ?_
    obtain ⟨h4, h⟩ := h
    obtain ⟨n5, h⟩ := h
    obtain ⟨h6, h⟩ := h
    obtain ⟨h7, h⟩ := h
    obtain ⟨h8, h⟩ := h
    refine r_iald n5 dX4_area_18 h4 h6 h7 h8 ?_
    refine r_aload_n 0 dX4_area_19 rfl rfl ?_
    refine r_getf cls4 6 dX4_area_20 (by decide) fl_RX4_18 rfl h1 h2 ?_
    refine r_iload_n 2 dX4_area_23 rfl rfl ?_
    obtain ⟨h9, h⟩ := h
    obtain ⟨n10, h⟩ := h
    obtain ⟨h11, h⟩ := h
    obtain ⟨h12, h⟩ := h
    refine r_iald n10 dX4_area_24 h9 h11 h7 h12 ?_
    refine r_aload_n 0 dX4_area_25 rfl rfl ?_
    refine r_getf cls4 5 dX4_area_26 (by decide) fl_RX4_15 rfl h1 h2 ?_
    refine r_iload_n 2 dX4_area_29 rfl rfl ?_
    obtain ⟨h13, h⟩ := h
    obtain ⟨n14, h⟩ := h
    obtain ⟨h15, h⟩ := h
    obtain ⟨h16, h⟩ := h
    refine r_iald n14 dX4_area_30 h13 h15 h7 h16 ?_
    obtain ⟨h17, h⟩ := h
    refine r_isub dX4_area_31 h17 ?_
    obtain ⟨h18, h⟩ := h
    refine r_imul dX4_area_32 h18 ?_
    obtain ⟨h19, h⟩ := h
    refine r_iadd dX4_area_33 h19 ?_
    refine r_istore_n dX4_area_34 rfl (by decide) rfl ?_
    obtain ⟨h20, h⟩ := h
    refine r_iinc 2 dX4_area_35 (by decide) rfl h20 rfl ?_
    refine r_goto (tgt := 4) dX4_area_38 (by decide) ?_
    refine Fr.fewer [2, 1, 0] rfl ?_
    exact h
set_option maxHeartbeats 4000000 in
set_option maxRecDepth 20000 in
theorem eX4_area {d : Nat} {K : Shp} {H : Mem} {q : Int → Mem → Prop} {v0 : Int} (h : Rng K H → FX4_area_0 d K H q v0) : Ci mX4_area d [(2, v0)] K H q := Call.of rfl (Nat.le_of_ble_eq_true rfl) (fun o r => h  r)
def FX4_rodsTogether_0 (d : Nat) (K : Shp) (H : Mem) (q : Int → Mem → Prop) (v0 : Int) : Prop := Fr mX4_rodsTogether d 0 0 none 0 [(0, (2, v0))] [] K H (qi K q)
def FX4_rodsTogether_4 (d : Nat) (K : Shp) (H : Mem) (q : Int → Mem → Prop) (v0 : Int) (v1 : Int) (v2 : Int) : Prop := Fr mX4_rodsTogether d 0 0 none 4 [(0, (2, v0)), (1, (0, v1)), (2, (0, v2))] [] K H (qi K q)
set_option maxHeartbeats 4000000 in
set_option maxRecDepth 20000 in
theorem bX4_rodsTogether_0 {d : Nat} {K : Shp} {H : Mem} {q : Int → Mem → Prop} {v0 : Int} (h : FX4_rodsTogether_4 d K H q (v0) (0) (0)) : FX4_rodsTogether_0 d K H q (v0) := by
  unfold FX4_rodsTogether_0
  refine r_iconst dX4_rodsTogether_0 (by decide) (by decide) ?_
  refine r_istore_n dX4_rodsTogether_1 rfl (by decide) rfl ?_
  refine r_iconst dX4_rodsTogether_2 (by decide) (by decide) ?_
  refine r_istore_n dX4_rodsTogether_3 rfl (by decide) rfl ?_
  refine Fr.fewer [2, 1, 0] rfl ?_
  exact h
set_option maxHeartbeats 4000000 in
set_option maxRecDepth 20000 in
theorem bX4_rodsTogether_4 {d : Nat} {K : Shp} {H : Mem} {q : Int → Mem → Prop} {v0 v1 v2 : Int} (h : ((0 : Int) ≤ v0) ∧ (K[(v0 : Int).toNat]? = some (4, 18)) ∧ ((¬ (v2 : Int) < (H (v0 : Int).toNat 7) → q v1 H) ∧ ((v2 : Int) < (H (v0 : Int).toNat 7) → ((0 : Int) ≤ (H (v0 : Int).toNat 9)) ∧ ∃ n5 : Nat, (K[((H (v0 : Int).toNat 9) : Int).toNat]? = some (20, n5)) ∧ ((0 : Int) ≤ v2) ∧ ((v2 : Int) < n5) ∧ (inI (v1 + (H ((H (v0 : Int).toNat 9) : Int).toNat (v2 : Int).toNat))) ∧ (inI (v2 + 1)) ∧ FX4_rodsTogether_4 d K H q (v0) ((v1 + (H ((H (v0 : Int).toNat 9) : Int).toNat (v2 : Int).toNat))) ((v2 + 1))))) : FX4_rodsTogether_4 d K H q (v0) (v1) (v2) := by
  unfold FX4_rodsTogether_4
  refine r_iload_n 2 dX4_rodsTogether_4 rfl rfl ?_
  refine r_aload_n 0 dX4_rodsTogether_5 rfl rfl ?_
  obtain ⟨h1, h⟩ := h
  obtain ⟨h2, h⟩ := h
  refine r_getf cls4 7 dX4_rodsTogether_6 (by decide) fl_RX4_63 rfl h1 h2 ?_
  refine r_icmp_ge (tgt := 27) dX4_rodsTogether_9 (by decide) (fun c3 => ?_) (fun c3 => ?_)
  · replace h := h.1 c3
    refine r_iload_n 1 dX4_rodsTogether_27 rfl rfl ?_
    exact r_iret dX4_rodsTogether_28 rfl ⟨rfl, _, rfl, h⟩
  · replace h := h.2 c3
    refine r_iload_n 1 dX4_rodsTogether_12 rfl rfl ?_
    refine r_aload_n 0 dX4_rodsTogether_13 rfl rfl ?_
    refine r_getf cls4 9 dX4_rodsTogether_14 (by decide) fl_RX4_24 rfl h1 h2 ?_
    refine r_iload_n 2 dX4_rodsTogether_17 rfl rfl ?_
    obtain ⟨h4, h⟩ := h
    obtain ⟨n5, h⟩ := h
    obtain ⟨h6, h⟩ := h
    obtain ⟨h7, h⟩ := h
    obtain ⟨h8, h⟩ := h
    refine r_iald n5 dX4_rodsTogether_18 h4 h6 h7 h8 ?_
    obtain ⟨h9, h⟩ := h
    refine r_iadd dX4_rodsTogether_19 h9 ?_
    refine r_istore_n dX4_rodsTogether_20 rfl (by decide) rfl ?_
    obtain ⟨h10, h⟩ := h
    refine r_iinc 2 dX4_rodsTogether_21 (by decide) rfl h10 rfl ?_
    refine r_goto (tgt := 4) dX4_rodsTogether_24 (by decide) ?_
    refine Fr.fewer [2, 1, 0] rfl ?_
    exact h
set_option maxHeartbeats 4000000 in
set_option maxRecDepth 20000 in
theorem eX4_rodsTogether {d : Nat} {K : Shp} {H : Mem} {q : Int → Mem → Prop} {v0 : Int} (h : Rng K H → FX4_rodsTogether_0 d K H q v0) : Ci mX4_rodsTogether d [(2, v0)] K H q := Call.of rfl (Nat.le_of_ble_eq_true rfl) (fun o r => h  r)
def FX4_widthAbove_0 (d : Nat) (K : Shp) (H : Mem) (q : Int → Mem → Prop) (v0 : Int) (v1 : Int) : Prop := Fr mX4_widthAbove d 0 0 none 0 [(0, (2, v0)), (1, (0, v1))] [] K H (qi K q)
def FX4_widthAbove_4 (d : Nat) (K : Shp) (H : Mem) (q : Int → Mem → Prop) (v0 : Int) (v1 : Int) (v2 : Int) (v3 : Int) : Prop := Fr mX4_widthAbove d 0 0 none 4 [(0, (2, v0)), (1, (0, v1)), (2, (0, v2)), (3, (0, v3))] [] K H (qi K q)
set_option maxHeartbeats 4000000 in
set_option maxRecDepth 20000 in
theorem bX4_widthAbove_0 {d : Nat} {K : Shp} {H : Mem} {q : Int → Mem → Prop} {v0 v1 : Int} (h : FX4_widthAbove_4 d K H q (v0) (v1) (0) (0)) : FX4_widthAbove_0 d K H q (v0) (v1) := by
  unfold FX4_widthAbove_0
  refine r_iconst dX4_widthAbove_0 (by decide) (by decide) ?_
  refine r_istore_n dX4_widthAbove_1 rfl (by decide) rfl ?_
  refine r_iconst dX4_widthAbove_2 (by decide) (by decide) ?_
  refine r_istore_n dX4_widthAbove_3 rfl (by decide) rfl ?_
  refine Fr.fewer [2, 3, 1, 0] rfl ?_
  exact h
set_option maxHeartbeats 4000000 in
set_option maxRecDepth 20000 in
theorem bX4_widthAbove_4 {d : Nat} {K : Shp} {H : Mem} {q : Int → Mem → Prop} {v0 v1 v2 v3 : Int} (h : ((0 : Int) ≤ v0) ∧ (K[(v0 : Int).toNat]? = some (4, 18)) ∧ ((¬ (v3 : Int) < (H (v0 : Int).toNat 3) → q v2 H) ∧ ((v3 : Int) < (H (v0 : Int).toNat 3) → ((0 : Int) ≤ (H (v0 : Int).toNat 5)) ∧ ∃ n5 : Nat, (K[((H (v0 : Int).toNat 5) : Int).toNat]? = some (20, n5)) ∧ ((0 : Int) ≤ v3) ∧ ((v3 : Int) < n5) ∧ ((¬ ((H ((H (v0 : Int).toNat 5) : Int).toNat (v3 : Int).toNat) : Int) ≤ v1 → (inI (v3 + 1)) ∧ FX4_widthAbove_4 d K H q (v0) (v1) (v2) ((v3 + 1))) ∧ (((H ((H (v0 : Int).toNat 5) : Int).toNat (v3 : Int).toNat) : Int) ≤ v1 → ((0 : Int) ≤ (H (v0 : Int).toNat 6)) ∧ ∃ n12 : Nat, (K[((H (v0 : Int).toNat 6) : Int).toNat]? = some (20, n12)) ∧ ((v3 : Int) < n12) ∧ ((¬ (v1 : Int) < (H ((H (v0 : Int).toNat 6) : Int).toNat (v3 : Int).toNat) → (inI (v3 + 1)) ∧ FX4_widthAbove_4 d K H q (v0) (v1) (v2) ((v3 + 1))) ∧ ((v1 : Int) < (H ((H (v0 : Int).toNat 6) : Int).toNat (v3 : Int).toNat) → ((0 : Int) ≤ (H (v0 : Int).toNat 4)) ∧ ∃ n18 : Nat, (K[((H (v0 : Int).toNat 4) : Int).toNat]? = some (20, n18)) ∧ ((v3 : Int) < n18) ∧ (inI (v2 + (H ((H (v0 : Int).toNat 4) : Int).toNat (v3 : Int).toNat))) ∧ (inI (v3 + 1)) ∧ FX4_widthAbove_4 d K H q (v0) (v1) ((v2 + (H ((H (v0 : Int).toNat 4) : Int).toNat (v3 : Int).toNat))) ((v3 + 1))))))))) : FX4_widthAbove_4 d K H q (v0) (v1) (v2) (v3) := by
  unfold FX4_widthAbove_4
  refine r_iload_n 3 dX4_widthAbove_4 rfl rfl ?_
  refine r_aload_n 0 dX4_widthAbove_5 rfl rfl ?_
  obtain ⟨h1, h⟩ := h
  obtain ⟨h2, h⟩ := h
  refine r_getf cls4 3 dX4_widthAbove_6 (by decide) fl_RX4_60 rfl h1 h2 ?_
  refine r_icmp_ge (tgt := 47) dX4_widthAbove_9 (by decide) (fun c3 => ?_) (fun c3 => ?_)
  · replace h := h.1 c3
    refine r_iload_n 2 dX4_widthAbove_47 rfl rfl ?_
    exact r_iret dX4_widthAbove_48 rfl ⟨rfl, _, rfl, h⟩
  · replace h := h.2 c3
    refine r_aload_n 0 dX4_widthAbove_12 rfl rfl ?_
    refine r_getf cls4 5 dX4_widthAbove_13 (by decide) fl_RX4_15 rfl h1 h2 ?_
    refine r_iload_n 3 dX4_widthAbove_16 rfl rfl ?_
    obtain ⟨h4, h⟩ := h
    obtain ⟨n5, h⟩ := h
    obtain ⟨h6, h⟩ := h
    obtain ⟨h7, h⟩ := h
    obtain ⟨h8, h⟩ := h
    refine r_iald n5 dX4_widthAbove_17 h4 h6 h7 h8 ?_
    refine r_iload_n 1 dX4_widthAbove_18 rfl rfl ?_
    refine r_icmp_gt (tgt := 41) dX4_widthAbove_19 (by decide) (fun c9 => ?_) (fun c9 => ?_)
    · replace h := h.1 c9
      obtain ⟨h10, h⟩ := h
      refine r_iinc 3 dX4_widthAbove_41 (by decide) rfl h10 rfl ?_
      refine r_goto (tgt := 4) dX4_widthAbove_44 (by decide) ?_
      refine Fr.fewer [1, 2, 3, 0] rfl ?_
      exact h
    · replace h := h.2 c9
      refine r_iload_n 1 dX4_widthAbove_22 rfl rfl ?_
      refine r_aload_n 0 dX4_widthAbove_23 rfl rfl ?_
      refine r_getf cls4 6 dX4_widthAbove_24 (by decide) fl_RX4_18 rfl h1 h2 ?_
      refine r_iload_n 3 dX4_widthAbove_27 rfl rfl ?_
      obtain ⟨h11, h⟩ := h
      obtain ⟨n12, h⟩ := h
      obtain ⟨h13, h⟩ := h
      obtain ⟨h14, h⟩ := h
      refine r_iald n12 dX4_widthAbove_28 h11 h13 h7 h14 ?_
      refine r_icmp_ge (tgt := 41) dX4_widthAbove_29 (by decide) (fun c15 => ?_) (fun c15 => ?_)
      · replace h := h.1 c15
        obtain ⟨h16, h⟩ := h
        refine r_iinc 3 dX4_widthAbove_41 (by decide) rfl h16 rfl ?_
        refine r_goto (tgt := 4) dX4_widthAbove_44 (by decide) ?_
        refine Fr.fewer [1, 2, 3, 0] rfl ?_
        exact h
      · replace h := h.2 c15
        refine r_iload_n 2 dX4_widthAbove_32 rfl rfl ?_
        refine r_aload_n 0 dX4_widthAbove_33 rfl rfl ?_
        refine r_getf cls4 4 dX4_widthAbove_34 (by decide) fl_RX4_9 rfl h1 h2 ?_
        refine r_iload_n 3 dX4_widthAbove_37 rfl rfl ?_
        obtain ⟨h17, h⟩ := h
        obtain ⟨n18, h⟩ := h
        obtain ⟨h19, h⟩ := h
        obtain ⟨h20, h⟩ := h
        refine r_iald n18 dX4_widthAbove_38 h17 h19 h7 h20 ?_
        obtain ⟨h21, h⟩ := h
        refine r_iadd dX4_widthAbove_39 h21 ?_
        refine r_istore_n dX4_widthAbove_40 rfl (by decide) rfl ?_
        obtain ⟨h22, h⟩ := h
        refine r_iinc 3 dX4_widthAbove_41 (by decide) rfl h22 rfl ?_
        refine r_goto (tgt := 4) dX4_widthAbove_44 (by decide) ?_
        refine Fr.fewer [2, 3, 1, 0] rfl ?_
        exact h
set_option maxHeartbeats 4000000 in
set_option maxRecDepth 20000 in
theorem eX4_widthAbove {d : Nat} {K : Shp} {H : Mem} {q : Int → Mem → Prop} {v0 v1 : Int} (h : inI v1 → Rng K H → FX4_widthAbove_0 d K H q v0 v1) : Ci mX4_widthAbove d [(2, v0), (0, v1)] K H q := Call.of rfl (Nat.le_of_ble_eq_true rfl) (fun o r => h (o (0, v1) (by simp)) r)
def FX4_findEdges_0 (d : Nat) (K : Shp) (H : Mem) (q : Mem → Prop) (v0 : Int) : Prop := Fr mX4_findEdges (d + 1) 0 0 none 0 [(0, (2, v0))] [] K H (qv K q)
def FX4_findEdges_25 (d : Nat) (K : Shp) (H : Mem) (q : Mem → Prop) (v0 : Int) (v1 : Int) : Prop := Fr mX4_findEdges (d + 1) 0 0 none 25 [(0, (2, v0)), (1, (0, v1))] [] K H (qv K q)
set_option maxHeartbeats 4000000 in
set_option maxRecDepth 20000 in
theorem bX4_findEdges_0 {d : Nat} {K : Shp} {H : Mem} {q : Mem → Prop} {v0 : Int} (h : ((0 : Int) ≤ v0) ∧ (K[(v0 : Int).toNat]? = some (4, 18)) ∧ ∀ H3 : Mem, H3 = upA H (v0 : Int).toNat (up1 (H (v0 : Int).toNat) 14 0) → Ci mX4_area d [(2, v0)] K H3 (fun x5 H4 => (inI ((H3 (v0 : Int).toNat 0) * x5)) ∧ ∀ H7 : Mem, H7 = upA H4 (v0 : Int).toNat (up1 (H4 (v0 : Int).toNat) 2 ((H3 (v0 : Int).toNat 0) * x5)) → ∀ H8 : Mem, H8 = upA H7 (v0 : Int).toNat (up1 (H7 (v0 : Int).toNat) 10 0) → FX4_findEdges_25 d K H8 q (v0) (0))) : FX4_findEdges_0 d K H q (v0) := by
  unfold FX4_findEdges_0
  refine r_aload_n 0 dX4_findEdges_0 rfl rfl ?_
  refine r_iconst dX4_findEdges_1 (by decide) (by decide) ?_
  obtain ⟨h1, h⟩ := h
  obtain ⟨h2, h⟩ := h
  refine r_putf cls4 14 dX4_findEdges_2 (by decide) rfl fl_RX4_36 rfl h1 h2 (fun _ => Or.inl rfl) ?_
  replace h := h _ rfl
  generalize upA H (v0 : Int).toNat (up1 (H (v0 : Int).toNat) 14 0) = H3 at h ⊢
  refine r_aload_n 0 dX4_findEdges_5 rfl rfl ?_
  refine r_aload_n 0 dX4_findEdges_6 rfl rfl ?_
  refine r_getf cls4 0 dX4_findEdges_7 (by decide) fl_RX4_54 rfl h1 h2 ?_
  refine r_aload_n 0 dX4_findEdges_10 rfl rfl ?_
  refine r_invV (M := mX4_findEdges) (As := []) (st := [(0, (H3 (v0 : Int).toNat 0)), (2, v0)]) (X := v0) (mc := 0) (ms := 0) (fc := 0) (fs := 0) h ok_X4_area cls4 im_X4_area se_X4_area ml_RX4_69 dX4_findEdges_11 rfl h1 h2 (Nat.le_of_ble_eq_true rfl) rfl ?_
  rintro r K1 H4 ⟨rfl, x5, rfl, h⟩ -
  show Fr mX4_findEdges (d + 1) 0 0 none 14 [(0, (2, v0))] [(0, x5), (0, (H3 (v0 : Int).toNat 0)), (2, v0)] _ H4 _
  obtain ⟨h6, h⟩ := h
  refine r_imul dX4_findEdges_14 h6 ?_
  refine r_putf cls4 2 dX4_findEdges_15 (by decide) rfl fl_RX4_73 rfl h1 h2 (fun o => o) ?_
  replace h := h _ rfl
  generalize upA H4 (v0 : Int).toNat (up1 (H4 (v0 : Int).toNat) 2 ((H3 (v0 : Int).toNat 0) * x5)) = H7 at h ⊢
  refine r_aload_n 0 dX4_findEdges_18 rfl rfl ?_
  refine r_iconst dX4_findEdges_19 (by decide) (by decide) ?_
  refine r_putf cls4 10 dX4_findEdges_20 (by decide) rfl fl_RX4_76 rfl h1 h2 (fun o => o) ?_
  replace h := h _ rfl
  generalize upA H7 (v0 : Int).toNat (up1 (H7 (v0 : Int).toNat) 10 0) = H8 at h ⊢
  refine r_iconst dX4_findEdges_23 (by decide) (by decide) ?_
  refine r_istore_n dX4_findEdges_24 rfl (by decide) rfl ?_
  refine Fr.fewer [1, 0] rfl ?_
  exact h
set_option maxHeartbeats 4000000 in
set_option maxRecDepth 20000 in
theorem bX4_findEdges_25 {d : Nat} {K : Shp} {H : Mem} {q : Mem → Prop} {v0 v1 : Int} (h : ((¬ (v1 : Int) ≤ 100 → q H) ∧ ((v1 : Int) ≤ 100 → ((0 : Int) ≤ v0) ∧ (K[(v0 : Int).toNat]? = some (4, 18)) ∧ ((¬ ((H (v0 : Int).toNat 10) : Int) < 24 → q H) ∧ (((H (v0 : Int).toNat 10) : Int) < 24 → Ci mX4_isEdge d [(2, v0), (0, v1)] K H (fun x6 H5 => (((x6 : Int) = 0 → (inI (v1 + 1)) ∧ FX4_findEdges_25 d K H5 q (v0) ((v1 + 1))) ∧ (¬ (x6 : Int) = 0 → ((0 : Int) ≤ (H5 (v0 : Int).toNat 11)) ∧ ∃ n10 : Nat, (K[((H5 (v0 : Int).toNat 11) : Int).toNat]? = some (20, n10)) ∧ ((0 : Int) ≤ (H5 (v0 : Int).toNat 10)) ∧ (((H5 (v0 : Int).toNat 10) : Int) < n10) ∧ ∀ H14 : Mem, H14 = upA H5 ((H5 (v0 : Int).toNat 11) : Int).toNat (up1 (H5 ((H5 (v0 : Int).toNat 11) : Int).toNat) ((H5 (v0 : Int).toNat 10) : Int).toNat v1) → Ci mX4_widthAbove d [(2, v0), (0, v1)] K H14 (fun x16 H15 => (inI ((H14 (v0 : Int).toNat 0) * x16)) ∧ ((0 : Int) ≤ (H14 (v0 : Int).toNat 12)) ∧ ∃ n19 : Nat, (K[((H14 (v0 : Int).toNat 12) : Int).toNat]? = some (20, n19)) ∧ ((0 : Int) ≤ (H14 (v0 : Int).toNat 10)) ∧ (((H14 (v0 : Int).toNat 10) : Int) < n19) ∧ ∀ H23 : Mem, H23 = upA H15 ((H14 (v0 : Int).toNat 12) : Int).toNat (up1 (H15 ((H14 (v0 : Int).toNat 12) : Int).toNat) ((H14 (v0 : Int).toNat 10) : Int).toNat ((H14 (v0 : Int).toNat 0) * x16)) → Cv mX4_placeRods d [(2, v0), (0, v1), (0, (H23 (v0 : Int).toNat 10))] K H23 (fun H24 => (inI ((H24 (v0 : Int).toNat 10) + 1)) ∧ ∀ H27 : Mem, H27 = upA H24 (v0 : Int).toNat (up1 (H24 (v0 : Int).toNat) 10 ((H24 (v0 : Int).toNat 10) + 1)) → (inI (v1 + 1)) ∧ FX4_findEdges_25 d K H27 q (v0) ((v1 + 1)))))))))))) : FX4_findEdges_25 d K H q (v0) (v1) := by
  unfold FX4_findEdges_25
  refine r_iload_n 1 dX4_findEdges_25 rfl rfl ?_
  refine r_bipush dX4_findEdges_26 (by decide) (by decide) ?_
  refine r_icmp_gt (tgt := 102) dX4_findEdges_28 (by decide) (fun c1 => ?_) (fun c1 => ?_)
  · replace h := h.1 c1
    exact r_vret dX4_findEdges_102 rfl ⟨rfl, rfl, h⟩
  · replace h := h.2 c1
    refine r_aload_n 0 dX4_findEdges_31 rfl rfl ?_
    obtain ⟨h2, h⟩ := h
    obtain ⟨h3, h⟩ := h
    refine r_getf cls4 10 dX4_findEdges_32 (by decide) fl_RX4_76 rfl h2 h3 ?_
    refine r_bipush dX4_findEdges_35 (by decide) (by decide) ?_
    refine r_icmp_ge (tgt := 102) dX4_findEdges_37 (by decide) (fun c4 => ?_) (fun c4 => ?_)
    · replace h := h.1 c4
      exact r_vret dX4_findEdges_102 rfl ⟨rfl, rfl, h⟩
    · replace h := h.2 c4
      refine r_aload_n 0 dX4_findEdges_40 rfl rfl ?_
      refine r_iload_n 1 dX4_findEdges_41 rfl rfl ?_
      refine r_invV (M := mX4_findEdges) (As := [(0, v1)]) (st := []) (X := v0) (mc := 0) (ms := 0) (fc := 0) (fs := 0) h ok_X4_isEdge cls4 im_X4_isEdge se_X4_isEdge ml_RX4_79 dX4_findEdges_42 rfl h2 h3 (Nat.le_of_ble_eq_true rfl) rfl ?_
      rintro r K1 H5 ⟨rfl, x6, rfl, h⟩ -
      show Fr mX4_findEdges (d + 1) 0 0 none 45 [(0, (2, v0)), (1, (0, v1))] [(0, x6)] _ H5 _
      refine r_if_eq (tgt := 96) dX4_findEdges_45 (by decide) (fun c7 => ?_) (fun c7 => ?_)
      · replace h := h.1 c7
        obtain ⟨h8, h⟩ := h
        refine r_iinc 1 dX4_findEdges_96 (by decide) rfl h8 rfl ?_
        refine r_goto (tgt := 25) dX4_findEdges_99 (by decide) ?_
        refine Fr.fewer [1, 0] rfl ?_
        exact h
      · replace h := h.2 c7
        refine r_aload_n 0 dX4_findEdges_48 rfl rfl ?_
        refine r_getf cls4 11 dX4_findEdges_49 (by decide) fl_RX4_27 rfl h2 h3 ?_
        refine r_aload_n 0 dX4_findEdges_52 rfl rfl ?_
        refine r_getf cls4 10 dX4_findEdges_53 (by decide) fl_RX4_76 rfl h2 h3 ?_
        refine r_iload_n 1 dX4_findEdges_56 rfl rfl ?_
        obtain ⟨h9, h⟩ := h
        obtain ⟨n10, h⟩ := h
        obtain ⟨h11, h⟩ := h
        obtain ⟨h12, h⟩ := h
        obtain ⟨h13, h⟩ := h
        refine r_iast n10 dX4_findEdges_57 h9 h11 h12 h13 ?_
        replace h := h _ rfl
        generalize upA H5 ((H5 (v0 : Int).toNat 11) : Int).toNat (up1 (H5 ((H5 (v0 : Int).toNat 11) : Int).toNat) ((H5 (v0 : Int).toNat 10) : Int).toNat v1) = H14 at h ⊢
        refine r_aload_n 0 dX4_findEdges_58 rfl rfl ?_
        refine r_getf cls4 12 dX4_findEdges_59 (by decide) fl_RX4_30 rfl h2 h3 ?_
        refine r_aload_n 0 dX4_findEdges_62 rfl rfl ?_
        refine r_getf cls4 10 dX4_findEdges_63 (by decide) fl_RX4_76 rfl h2 h3 ?_
        refine r_aload_n 0 dX4_findEdges_66 rfl rfl ?_
        refine r_getf cls4 0 dX4_findEdges_67 (by decide) fl_RX4_54 rfl h2 h3 ?_
        refine r_aload_n 0 dX4_findEdges_70 rfl rfl ?_
        refine r_iload_n 1 dX4_findEdges_71 rfl rfl ?_
        refine r_invV (M := mX4_findEdges) (As := [(0, v1)]) (st := [(0, (H14 (v0 : Int).toNat 0)), (0, (H14 (v0 : Int).toNat 10)), (2, (H14 (v0 : Int).toNat 12))]) (X := v0) (mc := 0) (ms := 0) (fc := 0) (fs := 0) h ok_X4_widthAbove cls4 im_X4_widthAbove se_X4_widthAbove ml_RX4_83 dX4_findEdges_72 rfl h2 h3 (Nat.le_of_ble_eq_true rfl) rfl ?_
        rintro r K1 H15 ⟨rfl, x16, rfl, h⟩ -
        show Fr mX4_findEdges (d + 1) 0 0 none 75 [(0, (2, v0)), (1, (0, v1))] [(0, x16), (0, (H14 (v0 : Int).toNat 0)), (0, (H14 (v0 : Int).toNat 10)), (2, (H14 (v0 : Int).toNat 12))] _ H15 _
        obtain ⟨h17, h⟩ := h
        refine r_imul dX4_findEdges_75 h17 ?_
        obtain ⟨h18, h⟩ := h
        obtain ⟨n19, h⟩ := h
        obtain ⟨h20, h⟩ := h
        obtain ⟨h21, h⟩ := h
        obtain ⟨h22, h⟩ := h
        refine r_iast n19 dX4_findEdges_76 h18 h20 h21 h22 ?_
        replace h := h _ rfl
        generalize upA H15 ((H14 (v0 : Int).toNat 12) : Int).toNat (up1 (H15 ((H14 (v0 : Int).toNat 12) : Int).toNat) ((H14 (v0 : Int).toNat 10) : Int).toNat ((H14 (v0 : Int).toNat 0) * x16)) = H23 at h ⊢
        refine r_aload_n 0 dX4_findEdges_77 rfl rfl ?_
        refine r_iload_n 1 dX4_findEdges_78 rfl rfl ?_
        refine r_aload_n 0 dX4_findEdges_79 rfl rfl ?_
        refine r_getf cls4 10 dX4_findEdges_80 (by decide) fl_RX4_76 rfl h2 h3 ?_
        refine r_invV (M := mX4_findEdges) (As := [(0, v1), (0, (H23 (v0 : Int).toNat 10))]) (st := []) (X := v0) (mc := 0) (ms := 0) (fc := 0) (fs := 0) h ok_X4_placeRods cls4 im_X4_placeRods se_X4_placeRods ml_RX4_87 dX4_findEdges_83 rfl h2 h3 (Nat.le_of_ble_eq_true rfl) rfl ?_
        rintro r K1 H24 ⟨rfl, rfl, h⟩ -
        show Fr mX4_findEdges (d + 1) 0 0 none 86 [(0, (2, v0)), (1, (0, v1))] [] _ H24 _
        refine r_aload_n 0 dX4_findEdges_86 rfl rfl ?_
        refine r_dup dX4_findEdges_87 (show (2 : Nat) ≠ 1 by decide) ?_
        refine r_getf cls4 10 dX4_findEdges_88 (by decide) fl_RX4_76 rfl h2 h3 ?_
        refine r_iconst dX4_findEdges_91 (by decide) (by decide) ?_
        obtain ⟨h26, h⟩ := h
        refine r_iadd dX4_findEdges_92 h26 ?_
        refine r_putf cls4 10 dX4_findEdges_93 (by decide) rfl fl_RX4_76 rfl h2 h3 (fun o => o) ?_
        replace h := h _ rfl
        generalize upA H24 (v0 : Int).toNat (up1 (H24 (v0 : Int).toNat) 10 ((H24 (v0 : Int).toNat 10) + 1)) = H27 at h ⊢
        obtain ⟨h28, h⟩ := h
        refine r_iinc 1 dX4_findEdges_96 (by decide) rfl h28 rfl ?_
        refine r_goto (tgt := 25) dX4_findEdges_99 (by decide) ?_
        refine Fr.fewer [1, 0] rfl ?_
        exact h
set_option maxHeartbeats 4000000 in
set_option maxRecDepth 20000 in
theorem eX4_findEdges {d : Nat} {K : Shp} {H : Mem} {q : Mem → Prop} {v0 : Int} (h : Rng K H → FX4_findEdges_0 d K H q v0) : Cv mX4_findEdges (d + 1) [(2, v0)] K H q := Call.of rfl (Nat.le_of_ble_eq_true rfl) (fun o r => h  r)
def FX4_isEdge_0 (d : Nat) (K : Shp) (H : Mem) (q : Int → Mem → Prop) (v0 : Int) (v1 : Int) : Prop := Fr mX4_isEdge d 0 0 none 0 [(0, (2, v0)), (1, (0, v1))] [] K H (qi K q)
def FX4_isEdge_18 (d : Nat) (K : Shp) (H : Mem) (q : Int → Mem → Prop) (v0 : Int) (v1 : Int) (v2 : Int) (v3 : Int) : Prop := Fr mX4_isEdge d 0 0 none 18 [(0, (2, v0)), (1, (0, v1)), (2, (0, v2)), (3, (0, v3))] [] K H (qi K q)
def FX4_isEdge_64 (d : Nat) (K : Shp) (H : Mem) (q : Int → Mem → Prop) (v0 : Int) (v1 : Int) (v2 : Int) (v3 : Int) : Prop := Fr mX4_isEdge d 0 0 none 64 [(0, (2, v0)), (1, (0, v1)), (2, (0, v2)), (3, (0, v3))] [] K H (qi K q)
set_option maxHeartbeats 4000000 in
set_option maxRecDepth 20000 in
theorem bX4_isEdge_0 {d : Nat} {K : Shp} {H : Mem} {q : Int → Mem → Prop} {v0 v1 : Int} (h : (((v1 : Int) = 0 → FX4_isEdge_18 d K H q (v0) (v1) (1) (0)) ∧ (¬ (v1 : Int) = 0 → ((¬ (v1 : Int) = 100 → FX4_isEdge_18 d K H q (v0) (v1) (0) (0)) ∧ ((v1 : Int) = 100 → FX4_isEdge_18 d K H q (v0) (v1) (1) (0)))))) : FX4_isEdge_0 d K H q (v0) (v1) := by
  unfold FX4_isEdge_0
  refine r_iload_n 1 dX4_isEdge_0 rfl rfl ?_
  refine r_if_eq (tgt := 10) dX4_isEdge_1 (by decide) (fun c1 => ?_) (fun c1 => ?_)
  · replace h := h.1 c1
    refine r_iconst dX4_isEdge_10 (by decide) (by decide) ?_
    refine r_goto (tgt := 15) dX4_isEdge_11 (by decide) ?_
    refine r_istore_n dX4_isEdge_15 rfl (by decide) rfl ?_
    refine r_iconst dX4_isEdge_16 (by decide) (by decide) ?_
    refine r_istore_n dX4_isEdge_17 rfl (by decide) rfl ?_
    refine Fr.fewer [2, 3, 1, 0] rfl ?_
    exact h
  · replace h := h.2 c1
    refine r_iload_n 1 dX4_isEdge_4 rfl rfl ?_
    refine r_bipush dX4_isEdge_5 (by decide) (by decide) ?_
    refine r_icmp_ne (tgt := 14) dX4_isEdge_7 (by decide) (fun c2 => ?_) (fun c2 => ?_)
    · replace h := h.1 c2
      refine r_iconst dX4_isEdge_14 (by decide) (by decide) ?_
      refine r_istore_n dX4_isEdge_15 rfl (by decide) rfl ?_
      refine r_iconst dX4_isEdge_16 (by decide) (by decide) ?_
      refine r_istore_n dX4_isEdge_17 rfl (by decide) rfl ?_
      refine Fr.fewer [2, 3, 1, 0] rfl ?_
      exact h
    · replace h := h.2 c2
      refine r_iconst dX4_isEdge_10 (by decide) (by decide) ?_
      refine r_goto (tgt := 15) dX4_isEdge_11 (by decide) ?_
      refine r_istore_n dX4_isEdge_15 rfl (by decide) rfl ?_
      refine r_iconst dX4_isEdge_16 (by decide) (by decide) ?_
      refine r_istore_n dX4_isEdge_17 rfl (by decide) rfl ?_
      refine Fr.fewer [2, 3, 1, 0] rfl ?_
      exact h
set_option maxHeartbeats 4000000 in
set_option maxRecDepth 20000 in
theorem bX4_isEdge_18 {d : Nat} {K : Shp} {H : Mem} {q : Int → Mem → Prop} {v0 v1 v2 v3 : Int} (h : ((0 : Int) ≤ v0) ∧ (K[(v0 : Int).toNat]? = some (4, 18)) ∧ ((¬ (v3 : Int) < (H (v0 : Int).toNat 3) → FX4_isEdge_64 d K H q (v0) (v1) (v2) (0)) ∧ ((v3 : Int) < (H (v0 : Int).toNat 3) → ((¬ (v2 : Int) = 0 → FX4_isEdge_64 d K H q (v0) (v1) (v2) (0)) ∧ ((v2 : Int) = 0 → ((0 : Int) ≤ (H (v0 : Int).toNat 5)) ∧ ∃ n6 : Nat, (K[((H (v0 : Int).toNat 5) : Int).toNat]? = some (20, n6)) ∧ ((0 : Int) ≤ v3) ∧ ((v3 : Int) < n6) ∧ ((((H ((H (v0 : Int).toNat 5) : Int).toNat (v3 : Int).toNat) : Int) = v1 → (inI (v3 + 1)) ∧ FX4_isEdge_18 d K H q (v0) (v1) (1) ((v3 + 1))) ∧ (¬ ((H ((H (v0 : Int).toNat 5) : Int).toNat (v3 : Int).toNat) : Int) = v1 → ((0 : Int) ≤ (H (v0 : Int).toNat 6)) ∧ ∃ n13 : Nat, (K[((H (v0 : Int).toNat 6) : Int).toNat]? = some (20, n13)) ∧ ((v3 : Int) < n13) ∧ ((¬ ((H ((H (v0 : Int).toNat 6) : Int).toNat (v3 : Int).toNat) : Int) = v1 → (inI (v3 + 1)) ∧ FX4_isEdge_18 d K H q (v0) (v1) (0) ((v3 + 1))) ∧ (((H ((H (v0 : Int).toNat 6) : Int).toNat (v3 : Int).toNat) : Int) = v1 → (inI (v3 + 1)) ∧ FX4_isEdge_18 d K H q (v0) (v1) (1) ((v3 + 1))))))))))) : FX4_isEdge_18 d K H q (v0) (v1) (v2) (v3) := by
  unfold FX4_isEdge_18
  refine r_iload_n 3 dX4_isEdge_18 rfl rfl ?_
  refine r_aload_n 0 dX4_isEdge_19 rfl rfl ?_
  obtain ⟨h1, h⟩ := h
  obtain ⟨h2, h⟩ := h
  refine r_getf cls4 3 dX4_isEdge_20 (by decide) fl_RX4_60 rfl h1 h2 ?_
  refine r_icmp_ge (tgt := 62) dX4_isEdge_23 (by decide) (fun c3 => ?_) (fun c3 => ?_)
  · replace h := h.1 c3
    refine r_iconst dX4_isEdge_62 (by decide) (by decide) ?_
    refine r_istore_n dX4_isEdge_63 rfl (by decide) rfl ?_
    refine Fr.fewer [1, 2, 3, 0] rfl ?_
    exact h
  · replace h := h.2 c3
    refine r_iload_n 2 dX4_isEdge_26 rfl rfl ?_
    refine r_if_ne (tgt := 62) dX4_isEdge_27 (by decide) (fun c4 => ?_) (fun c4 => ?_)
    · replace h := h.1 c4
      refine r_iconst dX4_isEdge_62 (by decide) (by decide) ?_
      refine r_istore_n dX4_isEdge_63 rfl (by decide) rfl ?_
      refine Fr.fewer [1, 2, 3, 0] rfl ?_
      exact h
    · replace h := h.2 c4
      refine r_aload_n 0 dX4_isEdge_30 rfl rfl ?_
      refine r_getf cls4 5 dX4_isEdge_31 (by decide) fl_RX4_15 rfl h1 h2 ?_
      refine r_iload_n 3 dX4_isEdge_34 rfl rfl ?_
      obtain ⟨h5, h⟩ := h
      obtain ⟨n6, h⟩ := h
      obtain ⟨h7, h⟩ := h
      obtain ⟨h8, h⟩ := h
      obtain ⟨h9, h⟩ := h
      refine r_iald n6 dX4_isEdge_35 h5 h7 h8 h9 ?_
      refine r_iload_n 1 dX4_isEdge_36 rfl rfl ?_
      refine r_icmp_eq (tgt := 50) dX4_isEdge_37 (by decide) (fun c10 => ?_) (fun c10 => ?_)
      · replace h := h.1 c10
        refine r_iconst dX4_isEdge_50 (by decide) (by decide) ?_
        refine r_goto (tgt := 55) dX4_isEdge_51 (by decide) ?_
        refine r_istore_n dX4_isEdge_55 rfl (by decide) rfl ?_
        obtain ⟨h11, h⟩ := h
        refine r_iinc 3 dX4_isEdge_56 (by decide) rfl h11 rfl ?_
        refine r_goto (tgt := 18) dX4_isEdge_59 (by decide) ?_
        refine Fr.fewer [2, 3, 1, 0] rfl ?_
        exact h
      · replace h := h.2 c10
        refine r_aload_n 0 dX4_isEdge_40 rfl rfl ?_
        refine r_getf cls4 6 dX4_isEdge_41 (by decide) fl_RX4_18 rfl h1 h2 ?_
        refine r_iload_n 3 dX4_isEdge_44 rfl rfl ?_
        obtain ⟨h12, h⟩ := h
        obtain ⟨n13, h⟩ := h
        obtain ⟨h14, h⟩ := h
        obtain ⟨h15, h⟩ := h
        refine r_iald n13 dX4_isEdge_45 h12 h14 h8 h15 ?_
        refine r_iload_n 1 dX4_isEdge_46 rfl rfl ?_
        refine r_icmp_ne (tgt := 54) dX4_isEdge_47 (by decide) (fun c16 => ?_) (fun c16 => ?_)
        · replace h := h.1 c16
          refine r_iconst dX4_isEdge_54 (by decide) (by decide) ?_
          refine r_istore_n dX4_isEdge_55 rfl (by decide) rfl ?_
          obtain ⟨h17, h⟩ := h
          refine r_iinc 3 dX4_isEdge_56 (by decide) rfl h17 rfl ?_
          refine r_goto (tgt := 18) dX4_isEdge_59 (by decide) ?_
          refine Fr.fewer [2, 3, 1, 0] rfl ?_
          exact h
        · replace h := h.2 c16
          refine r_iconst dX4_isEdge_50 (by decide) (by decide) ?_
          refine r_goto (tgt := 55) dX4_isEdge_51 (by decide) ?_
          refine r_istore_n dX4_isEdge_55 rfl (by decide) rfl ?_
          obtain ⟨h18, h⟩ := h
          refine r_iinc 3 dX4_isEdge_56 (by decide) rfl h18 rfl ?_
          refine r_goto (tgt := 18) dX4_isEdge_59 (by decide) ?_
          refine Fr.fewer [2, 3, 1, 0] rfl ?_
          exact h
set_option maxHeartbeats 4000000 in
set_option maxRecDepth 20000 in
theorem bX4_isEdge_64 {d : Nat} {K : Shp} {H : Mem} {q : Int → Mem → Prop} {v0 v1 v2 v3 : Int} (h : ((0 : Int) ≤ v0) ∧ (K[(v0 : Int).toNat]? = some (4, 18)) ∧ ((¬ (v3 : Int) < (H (v0 : Int).toNat 7) → ((v2 : Int) = 0 ∨ (v2 : Int) = 1) ∧ q v2 H) ∧ ((v3 : Int) < (H (v0 : Int).toNat 7) → ((¬ (v2 : Int) = 0 → ((v2 : Int) = 0 ∨ (v2 : Int) = 1) ∧ q v2 H) ∧ ((v2 : Int) = 0 → ((0 : Int) ≤ (H (v0 : Int).toNat 8)) ∧ ∃ n8 : Nat, (K[((H (v0 : Int).toNat 8) : Int).toNat]? = some (20, n8)) ∧ ((0 : Int) ≤ v3) ∧ ((v3 : Int) < n8) ∧ ((¬ ((H ((H (v0 : Int).toNat 8) : Int).toNat (v3 : Int).toNat) : Int) = v1 → (inI (v3 + 1)) ∧ FX4_isEdge_64 d K H q (v0) (v1) (0) ((v3 + 1))) ∧ (((H ((H (v0 : Int).toNat 8) : Int).toNat (v3 : Int).toNat) : Int) = v1 → (inI (v3 + 1)) ∧ FX4_isEdge_64 d K H q (v0) (v1) (1) ((v3 + 1))))))))) : FX4_isEdge_64 d K H q (v0) (v1) (v2) (v3) := by
  unfold FX4_isEdge_64
  refine r_iload_n 3 dX4_isEdge_64 rfl rfl ?_
  refine r_aload_n 0 dX4_isEdge_65 rfl rfl ?_
  obtain ⟨h1, h⟩ := h
  obtain ⟨h2, h⟩ := h
  refine r_getf cls4 7 dX4_isEdge_66 (by decide) fl_RX4_63 rfl h1 h2 ?_
  refine r_icmp_ge (tgt := 98) dX4_isEdge_69 (by decide) (fun c3 => ?_) (fun c3 => ?_)
  · replace h := h.1 c3
    refine r_iload_n 2 dX4_isEdge_98 rfl rfl ?_
    obtain ⟨h4, h⟩ := h
    exact r_zret dX4_isEdge_99 rfl h4 ⟨rfl, _, rfl, h⟩
  · replace h := h.2 c3
    refine r_iload_n 2 dX4_isEdge_72 rfl rfl ?_
    refine r_if_ne (tgt := 98) dX4_isEdge_73 (by decide) (fun c5 => ?_) (fun c5 => ?_)
    · replace h := h.1 c5
      refine r_iload_n 2 dX4_isEdge_98 rfl rfl ?_
      obtain ⟨h6, h⟩ := h
      exact r_zret dX4_isEdge_99 rfl h6 ⟨rfl, _, rfl, h⟩
    · replace h := h.2 c5
      refine r_aload_n 0 dX4_isEdge_76 rfl rfl ?_
      refine r_getf cls4 8 dX4_isEdge_77 (by decide) fl_RX4_21 rfl h1 h2 ?_
      refine r_iload_n 3 dX4_isEdge_80 rfl rfl ?_
      obtain ⟨h7, h⟩ := h
      obtain ⟨n8, h⟩ := h
      obtain ⟨h9, h⟩ := h
      obtain ⟨h10, h⟩ := h
      obtain ⟨h11, h⟩ := h
      refine r_iald n8 dX4_isEdge_81 h7 h9 h10 h11 ?_
      refine r_iload_n 1 dX4_isEdge_82 rfl rfl ?_
      refine r_icmp_ne (tgt := 90) dX4_isEdge_83 (by decide) (fun c12 => ?_) (fun c12 => ?_)
      · replace h := h.1 c12
        refine r_iconst dX4_isEdge_90 (by decide) (by decide) ?_
        refine r_istore_n dX4_isEdge_91 rfl (by decide) rfl ?_
        obtain ⟨h13, h⟩ := h
        refine r_iinc 3 dX4_isEdge_92 (by decide) rfl h13 rfl ?_
        refine r_goto (tgt := 64) dX4_isEdge_95 (by decide) ?_
        refine Fr.fewer [2, 3, 1, 0] rfl ?_
        exact h
      · replace h := h.2 c12
        refine r_iconst dX4_isEdge_86 (by decide) (by decide) ?_
        refine r_goto (tgt := 91) dX4_isEdge_87 (by decide) ?_
        refine r_istore_n dX4_isEdge_91 rfl (by decide) rfl ?_
        obtain ⟨h14, h⟩ := h
        refine r_iinc 3 dX4_isEdge_92 (by decide) rfl h14 rfl ?_
        refine r_goto (tgt := 64) dX4_isEdge_95 (by decide) ?_
        refine Fr.fewer [2, 3, 1, 0] rfl ?_
        exact h
set_option maxHeartbeats 4000000 in
set_option maxRecDepth 20000 in
theorem eX4_isEdge {d : Nat} {K : Shp} {H : Mem} {q : Int → Mem → Prop} {v0 v1 : Int} (h : inI v1 → Rng K H → FX4_isEdge_0 d K H q v0 v1) : Ci mX4_isEdge d [(2, v0), (0, v1)] K H q := Call.of rfl (Nat.le_of_ble_eq_true rfl) (fun o r => h (o (0, v1) (by simp)) r)
def FX4_placeRods_0 (d : Nat) (K : Shp) (H : Mem) (q : Mem → Prop) (v0 : Int) (v1 : Int) (v2 : Int) : Prop := Fr mX4_placeRods d 0 0 none 0 [(0, (2, v0)), (1, (0, v1)), (2, (0, v2))] [] K H (qv K q)
def FX4_placeRods_2 (d : Nat) (K : Shp) (H : Mem) (q : Mem → Prop) (v0 : Int) (v1 : Int) (v2 : Int) (v3 : Int) : Prop := Fr mX4_placeRods d 0 0 none 2 [(0, (2, v0)), (1, (0, v1)), (2, (0, v2)), (3, (0, v3))] [] K H (qv K q)
set_option maxHeartbeats 4000000 in
set_option maxRecDepth 20000 in
theorem bX4_placeRods_0 {d : Nat} {K : Shp} {H : Mem} {q : Mem → Prop} {v0 v1 v2 : Int} (h : FX4_placeRods_2 d K H q (v0) (v1) (v2) (0)) : FX4_placeRods_0 d K H q (v0) (v1) (v2) := by
  unfold FX4_placeRods_0
  refine r_iconst dX4_placeRods_0 (by decide) (by decide) ?_
  refine r_istore_n dX4_placeRods_1 rfl (by decide) rfl ?_
  refine Fr.fewer [1, 2, 3, 0] rfl ?_
  exact h
set_option maxHeartbeats 4000000 in
set_option maxRecDepth 20000 in
theorem bX4_placeRods_2 {d : Nat} {K : Shp} {H : Mem} {q : Mem → Prop} {v0 v1 v2 v3 : Int} (h : ((0 : Int) ≤ v0) ∧ (K[(v0 : Int).toNat]? = some (4, 18)) ∧ ((¬ (v3 : Int) < (H (v0 : Int).toNat 7) → q H) ∧ ((v3 : Int) < (H (v0 : Int).toNat 7) → ((0 : Int) ≤ (H (v0 : Int).toNat 8)) ∧ ∃ n5 : Nat, (K[((H (v0 : Int).toNat 8) : Int).toNat]? = some (20, n5)) ∧ ((0 : Int) ≤ v3) ∧ ((v3 : Int) < n5) ∧ ((¬ ((H ((H (v0 : Int).toNat 8) : Int).toNat (v3 : Int).toNat) : Int) = v1 → (inI (v3 + 1)) ∧ FX4_placeRods_2 d K H q (v0) (v1) (v2) ((v3 + 1))) ∧ (((H ((H (v0 : Int).toNat 8) : Int).toNat (v3 : Int).toNat) : Int) = v1 → ((0 : Int) ≤ (H (v0 : Int).toNat 13)) ∧ ∃ n12 : Nat, (K[((H (v0 : Int).toNat 13) : Int).toNat]? = some (20, n12)) ∧ ((v3 : Int) < n12) ∧ ∀ H15 : Mem, H15 = upA H ((H (v0 : Int).toNat 13) : Int).toNat (up1 (H ((H (v0 : Int).toNat 13) : Int).toNat) (v3 : Int).toNat v2) → (inI (v3 + 1)) ∧ FX4_placeRods_2 d K H15 q (v0) (v1) (v2) ((v3 + 1))))))) : FX4_placeRods_2 d K H q (v0) (v1) (v2) (v3) := by
  unfold FX4_placeRods_2
  refine r_iload_n 3 dX4_placeRods_2 rfl rfl ?_
  refine r_aload_n 0 dX4_placeRods_3 rfl rfl ?_
  obtain ⟨h1, h⟩ := h
  obtain ⟨h2, h⟩ := h
  refine r_getf cls4 7 dX4_placeRods_4 (by decide) fl_RX4_63 rfl h1 h2 ?_
  refine r_icmp_ge (tgt := 33) dX4_placeRods_7 (by decide) (fun c3 => ?_) (fun c3 => ?_)
  · replace h := h.1 c3
    exact r_vret dX4_placeRods_33 rfl ⟨rfl, rfl, h⟩
  · replace h := h.2 c3
    refine r_aload_n 0 dX4_placeRods_10 rfl rfl ?_
    refine r_getf cls4 8 dX4_placeRods_11 (by decide) fl_RX4_21 rfl h1 h2 ?_
    refine r_iload_n 3 dX4_placeRods_14 rfl rfl ?_
    obtain ⟨h4, h⟩ := h
    obtain ⟨n5, h⟩ := h
    obtain ⟨h6, h⟩ := h
    obtain ⟨h7, h⟩ := h
    obtain ⟨h8, h⟩ := h
    refine r_iald n5 dX4_placeRods_15 h4 h6 h7 h8 ?_
    refine r_iload_n 1 dX4_placeRods_16 rfl rfl ?_
    refine r_icmp_ne (tgt := 27) dX4_placeRods_17 (by decide) (fun c9 => ?_) (fun c9 => ?_)
    · replace h := h.1 c9
      obtain ⟨h10, h⟩ := h
      refine r_iinc 3 dX4_placeRods_27 (by decide) rfl h10 rfl ?_
      refine r_goto (tgt := 2) dX4_placeRods_30 (by decide) ?_
      refine Fr.fewer [1, 2, 3, 0] rfl ?_
      exact h
    · replace h := h.2 c9
      refine r_aload_n 0 dX4_placeRods_20 rfl rfl ?_
      refine r_getf cls4 13 dX4_placeRods_21 (by decide) fl_RX4_33 rfl h1 h2 ?_
      refine r_iload_n 3 dX4_placeRods_24 rfl rfl ?_
      refine r_iload_n 2 dX4_placeRods_25 rfl rfl ?_
      obtain ⟨h11, h⟩ := h
      obtain ⟨n12, h⟩ := h
      obtain ⟨h13, h⟩ := h
      obtain ⟨h14, h⟩ := h
      refine r_iast n12 dX4_placeRods_26 h11 h13 h7 h14 ?_
      replace h := h _ rfl
      generalize upA H ((H (v0 : Int).toNat 13) : Int).toNat (up1 (H ((H (v0 : Int).toNat 13) : Int).toNat) (v3 : Int).toNat v2) = H15 at h ⊢
      obtain ⟨h16, h⟩ := h
      refine r_iinc 3 dX4_placeRods_27 (by decide) rfl h16 rfl ?_
      refine r_goto (tgt := 2) dX4_placeRods_30 (by decide) ?_
      refine Fr.fewer [1, 2, 3, 0] rfl ?_
      exact h
set_option maxHeartbeats 4000000 in
set_option maxRecDepth 20000 in
theorem eX4_placeRods {d : Nat} {K : Shp} {H : Mem} {q : Mem → Prop} {v0 v1 v2 : Int} (h : inI v1 → inI v2 → Rng K H → FX4_placeRods_0 d K H q v0 v1 v2) : Cv mX4_placeRods d [(2, v0), (0, v1), (0, v2)] K H q := Call.of rfl (Nat.le_of_ble_eq_true rfl) (fun o r => h (o (0, v1) (by simp)) (o (0, v2) (by simp)) r)
