/-! printed by gen/emit.py: what a walk from each cut point asks -/
def FX8_writeShare_0 (d : Nat) (K : Shp) (H : Mem) (q : Mem → Prop) (v0 : Int) (v1 : Int) : Prop := Fr mX8_writeShare (d + 1) 0 0 none 0 [(0, (2, v0)), (1, (2, v1))] [] K H (qv K q)
set_option maxHeartbeats 4000000 in
set_option maxRecDepth 20000 in
theorem bX8_writeShare_0 {d : Nat} {K : Shp} {H : Mem} {q : Mem → Prop} {v0 v1 : Int} (h : ((0 : Int) ≤ v1) ∧ (K[(v1 : Int).toNat]? = some (5, 2)) ∧ Cv mX5_shorten d [(2, v1)] K H (fun H3 => ((0 : Int) ≤ v0) ∧ (K[(v0 : Int).toNat]? = some (8, 3)) ∧ (inL (max (H3 (v1 : Int).toNat 0) (-(H3 (v1 : Int).toNat 0)))) ∧ ((0 : Int) ≤ (H3 (v0 : Int).toNat 2)) ∧ (K[((H3 (v0 : Int).toNat 2) : Int).toNat]? = some (3, 5)) ∧ Cv mX3_put d [(2, (H3 (v0 : Int).toNat 2)), (1, (max (H3 (v1 : Int).toNat 0) (-(H3 (v1 : Int).toNat 0)))), (1, (H3 (v1 : Int).toNat 1))] K H3 (fun H10 => ((¬ ((H10 (v1 : Int).toNat 0) : Int) < 0 → Cv mX8_writeRatio d [(2, v0), (0, 0), (2, (H10 (v0 : Int).toNat 2))] K H10 (fun H13 => q H13)) ∧ (((H10 (v1 : Int).toNat 0) : Int) < 0 → Cv mX8_writeRatio d [(2, v0), (0, 1), (2, (H10 (v0 : Int).toNat 2))] K H10 (fun H15 => q H15)))))) : FX8_writeShare_0 d K H q (v0) (v1) := by
  unfold FX8_writeShare_0
  refine r_aload_n 1 dX8_writeShare_0 rfl rfl ?_
  obtain ⟨h1, h⟩ := h
  obtain ⟨h2, h⟩ := h
  refine r_invV (M := mX8_writeShare) (As := []) (st := []) (X := v1) (mc := 0) (ms := 0) (fc := 0) (fs := 0) h ok_X5_shorten cls5 im_X5_shorten se_X5_shorten ml_RX8_26 dX8_writeShare_1 rfl h1 h2 (Nat.le_of_ble_eq_true rfl) rfl ?_
  rintro r K1 H3 ⟨rfl, rfl, h⟩ -
  show Fr mX8_writeShare (d + 1) 0 0 none 4 [(0, (2, v0)), (1, (2, v1))] [] _ H3 _
  refine r_aload_n 0 dX8_writeShare_4 rfl rfl ?_
  obtain ⟨h5, h⟩ := h
  obtain ⟨h6, h⟩ := h
  refine r_getf cls8 2 dX8_writeShare_5 (by decide) fl_RX8_22 rfl h5 h6 ?_
  refine r_aload_n 1 dX8_writeShare_8 rfl rfl ?_
  refine r_getf cls5 0 dX8_writeShare_9 (by decide) fl_RX8_31 rfl h1 h2 ?_
  obtain ⟨h7, h⟩ := h
  refine r_absl dX8_writeShare_12 ml_RX8_35 (Nat.le_of_ble_eq_true rfl) h7 ?_
  refine r_aload_n 1 dX8_writeShare_15 rfl rfl ?_
  refine r_getf cls5 1 dX8_writeShare_16 (by decide) fl_RX8_41 rfl h1 h2 ?_
  obtain ⟨h8, h⟩ := h
  obtain ⟨h9, h⟩ := h
  refine r_invV (M := mX8_writeShare) (As := [(1, (max (H3 (v1 : Int).toNat 0) (-(H3 (v1 : Int).toNat 0)))), (1, (H3 (v1 : Int).toNat 1))]) (st := []) (X := (H3 (v0 : Int).toNat 2)) (mc := 0) (ms := 0) (fc := 0) (fs := 0) h ok_X3_put cls3 im_X3_put se_X3_put ml_RX8_44 dX8_writeShare_19 rfl h8 h9 (Nat.le_of_ble_eq_true rfl) rfl ?_
  rintro r K1 H10 ⟨rfl, rfl, h⟩ -
  show Fr mX8_writeShare (d + 1) 0 0 none 22 [(0, (2, v0)), (1, (2, v1))] [] _ H10 _
  refine r_aload_n 0 dX8_writeShare_22 rfl rfl ?_
  refine r_aload_n 1 dX8_writeShare_23 rfl rfl ?_
  refine r_getf cls5 0 dX8_writeShare_24 (by decide) fl_RX8_31 rfl h1 h2 ?_
  refine r_lconst0 dX8_writeShare_27 ?_
  refine r_lcmp dX8_writeShare_28 ?_
  refine r_if_ge (tgt := 36) dX8_writeShare_29 (by decide) (fun c12 => ?_) (fun c12 => ?_)
  · replace h := h.1 (fun q => c12 (cmpL_lt.mpr q))
    refine r_iconst dX8_writeShare_36 (by decide) (by decide) ?_
    refine r_aload_n 0 dX8_writeShare_37 rfl rfl ?_
    refine r_getf cls8 2 dX8_writeShare_38 (by decide) fl_RX8_22 rfl h5 h6 ?_
    refine r_invV (M := mX8_writeShare) (As := [(0, 0), (2, (H10 (v0 : Int).toNat 2))]) (st := []) (X := v0) (mc := 0) (ms := 0) (fc := 0) (fs := 0) h ok_X8_writeRatio cls8 im_X8_writeRatio se_X8_writeRatio ml_RX8_48 dX8_writeShare_41 rfl h5 h6 (Nat.le_of_ble_eq_true rfl) rfl ?_
    rintro r K1 H13 ⟨rfl, rfl, h⟩ -
    show Fr mX8_writeShare (d + 1) 0 0 none 44 [(0, (2, v0)), (1, (2, v1))] [] _ H13 _
    exact r_vret dX8_writeShare_44 rfl ⟨rfl, rfl, h⟩
  · replace h := h.2 (cmpL_lt.mp c12)
    refine r_iconst dX8_writeShare_32 (by decide) (by decide) ?_
    refine r_goto (tgt := 37) dX8_writeShare_33 (by decide) ?_
    refine r_aload_n 0 dX8_writeShare_37 rfl rfl ?_
    refine r_getf cls8 2 dX8_writeShare_38 (by decide) fl_RX8_22 rfl h5 h6 ?_
    refine r_invV (M := mX8_writeShare) (As := [(0, 1), (2, (H10 (v0 : Int).toNat 2))]) (st := []) (X := v0) (mc := 0) (ms := 0) (fc := 0) (fs := 0) h ok_X8_writeRatio cls8 im_X8_writeRatio se_X8_writeRatio ml_RX8_48 dX8_writeShare_41 rfl h5 h6 (Nat.le_of_ble_eq_true rfl) rfl ?_
    rintro r K1 H15 ⟨rfl, rfl, h⟩ -
    show Fr mX8_writeShare (d + 1) 0 0 none 44 [(0, (2, v0)), (1, (2, v1))] [] _ H15 _
    exact r_vret dX8_writeShare_44 rfl ⟨rfl, rfl, h⟩
set_option maxHeartbeats 4000000 in
set_option maxRecDepth 20000 in
theorem eX8_writeShare {d : Nat} {K : Shp} {H : Mem} {q : Mem → Prop} {v0 v1 : Int} (h : Rng K H → FX8_writeShare_0 d K H q v0 v1) : Cv mX8_writeShare (d + 1) [(2, v0), (2, v1)] K H q := Call.of rfl (Nat.le_of_ble_eq_true rfl) (fun o r => h  r)
def FX8_writeRatio_0 (d : Nat) (K : Shp) (H : Mem) (q : Mem → Prop) (v0 : Int) (v1 : Int) (v2 : Int) : Prop := Fr mX8_writeRatio (d + 1) 0 0 none 0 [(0, (2, v0)), (1, (0, v1)), (2, (2, v2))] [] K H (qv K q)
set_option maxHeartbeats 4000000 in
set_option maxRecDepth 20000 in
theorem bX8_writeRatio_0 {d : Nat} {K : Shp} {H : Mem} {q : Mem → Prop} {v0 v1 v2 : Int} (h : ((0 : Int) ≤ v0) ∧ (K[(v0 : Int).toNat]? = some (8, 3)) ∧ ∀ H3 : Mem, H3 = upA H (v0 : Int).toNat (up1 (H (v0 : Int).toNat) 0 0) → (((v1 : Int) = 0 → ((0 : Int) ≤ v2) ∧ (K[(v2 : Int).toNat]? = some (3, 5)) ∧ Cv mX8_writeWhole d [(2, v0), (2, (H3 (v2 : Int).toNat 0))] K H3 (fun H7 => Cv mX8_write d [(2, v0), (0, 47)] K H7 (fun H9 => Cv mX8_writeWhole d [(2, v0), (2, (H9 (v2 : Int).toNat 1))] K H9 (fun H11 => q H11)))) ∧ (¬ (v1 : Int) = 0 → Cv mX8_write d [(2, v0), (0, 45)] K H3 (fun H13 => ((0 : Int) ≤ v2) ∧ (K[(v2 : Int).toNat]? = some (3, 5)) ∧ Cv mX8_writeWhole d [(2, v0), (2, (H13 (v2 : Int).toNat 0))] K H13 (fun H17 => Cv mX8_write d [(2, v0), (0, 47)] K H17 (fun H19 => Cv mX8_writeWhole d [(2, v0), (2, (H19 (v2 : Int).toNat 1))] K H19 (fun H21 => q H21))))))) : FX8_writeRatio_0 d K H q (v0) (v1) (v2) := by
  unfold FX8_writeRatio_0
  refine r_aload_n 0 dX8_writeRatio_0 rfl rfl ?_
  refine r_iconst dX8_writeRatio_1 (by decide) (by decide) ?_
  obtain ⟨h1, h⟩ := h
  obtain ⟨h2, h⟩ := h
  refine r_putf cls8 0 dX8_writeRatio_2 (by decide) rfl fl_RX8_9 rfl h1 h2 (fun o => o) ?_
  replace h := h _ rfl
  generalize upA H (v0 : Int).toNat (up1 (H (v0 : Int).toNat) 0 0) = H3 at h ⊢
  refine r_iload_n 1 dX8_writeRatio_5 rfl rfl ?_
  refine r_if_eq (tgt := 15) dX8_writeRatio_6 (by decide) (fun c4 => ?_) (fun c4 => ?_)
  · replace h := h.1 c4
    refine r_aload_n 0 dX8_writeRatio_15 rfl rfl ?_
    refine r_aload_n 2 dX8_writeRatio_16 rfl rfl ?_
    obtain ⟨h5, h⟩ := h
    obtain ⟨h6, h⟩ := h
    refine r_getf cls3 0 dX8_writeRatio_17 (by decide) fl_RX8_56 rfl h5 h6 ?_
    refine r_invV (M := mX8_writeRatio) (As := [(2, (H3 (v2 : Int).toNat 0))]) (st := []) (X := v0) (mc := 0) (ms := 0) (fc := 0) (fs := 0) h ok_X8_writeWhole cls8 im_X8_writeWhole se_X8_writeWhole ml_RX8_59 dX8_writeRatio_20 rfl h1 h2 (Nat.le_of_ble_eq_true rfl) rfl ?_
    rintro r K1 H7 ⟨rfl, rfl, h⟩ -
    show Fr mX8_writeRatio (d + 1) 0 0 none 23 [(0, (2, v0)), (1, (0, v1)), (2, (2, v2))] [] _ H7 _
    refine r_aload_n 0 dX8_writeRatio_23 rfl rfl ?_
    refine r_bipush dX8_writeRatio_24 (by decide) (by decide) ?_
    refine r_invV (M := mX8_writeRatio) (As := [(0, 47)]) (st := []) (X := v0) (mc := 0) (ms := 0) (fc := 0) (fs := 0) h ok_X8_write cls8 im_X8_write se_X8_write ml_RX8_52 dX8_writeRatio_26 rfl h1 h2 (Nat.le_of_ble_eq_true rfl) rfl ?_
    rintro r K1 H9 ⟨rfl, rfl, h⟩ -
    show Fr mX8_writeRatio (d + 1) 0 0 none 29 [(0, (2, v0)), (1, (0, v1)), (2, (2, v2))] [] _ H9 _
    refine r_aload_n 0 dX8_writeRatio_29 rfl rfl ?_
    refine r_aload_n 2 dX8_writeRatio_30 rfl rfl ?_
    refine r_getf cls3 1 dX8_writeRatio_31 (by decide) fl_RX8_63 rfl h5 h6 ?_
    refine r_invV (M := mX8_writeRatio) (As := [(2, (H9 (v2 : Int).toNat 1))]) (st := []) (X := v0) (mc := 0) (ms := 0) (fc := 0) (fs := 0) h ok_X8_writeWhole cls8 im_X8_writeWhole se_X8_writeWhole ml_RX8_59 dX8_writeRatio_34 rfl h1 h2 (Nat.le_of_ble_eq_true rfl) rfl ?_
    rintro r K1 H11 ⟨rfl, rfl, h⟩ -
    show Fr mX8_writeRatio (d + 1) 0 0 none 37 [(0, (2, v0)), (1, (0, v1)), (2, (2, v2))] [] _ H11 _
    exact r_vret dX8_writeRatio_37 rfl ⟨rfl, rfl, h⟩
  · replace h := h.2 c4
    refine r_aload_n 0 dX8_writeRatio_9 rfl rfl ?_
    refine r_bipush dX8_writeRatio_10 (by decide) (by decide) ?_
    refine r_invV (M := mX8_writeRatio) (As := [(0, 45)]) (st := []) (X := v0) (mc := 0) (ms := 0) (fc := 0) (fs := 0) h ok_X8_write cls8 im_X8_write se_X8_write ml_RX8_52 dX8_writeRatio_12 rfl h1 h2 (Nat.le_of_ble_eq_true rfl) rfl ?_
    rintro r K1 H13 ⟨rfl, rfl, h⟩ -
    show Fr mX8_writeRatio (d + 1) 0 0 none 15 [(0, (2, v0)), (1, (0, v1)), (2, (2, v2))] [] _ H13 _
    refine r_aload_n 0 dX8_writeRatio_15 rfl rfl ?_
    refine r_aload_n 2 dX8_writeRatio_16 rfl rfl ?_
    obtain ⟨h15, h⟩ := h
    obtain ⟨h16, h⟩ := h
    refine r_getf cls3 0 dX8_writeRatio_17 (by decide) fl_RX8_56 rfl h15 h16 ?_
    refine r_invV (M := mX8_writeRatio) (As := [(2, (H13 (v2 : Int).toNat 0))]) (st := []) (X := v0) (mc := 0) (ms := 0) (fc := 0) (fs := 0) h ok_X8_writeWhole cls8 im_X8_writeWhole se_X8_writeWhole ml_RX8_59 dX8_writeRatio_20 rfl h1 h2 (Nat.le_of_ble_eq_true rfl) rfl ?_
    rintro r K1 H17 ⟨rfl, rfl, h⟩ -
    show Fr mX8_writeRatio (d + 1) 0 0 none 23 [(0, (2, v0)), (1, (0, v1)), (2, (2, v2))] [] _ H17 _
    refine r_aload_n 0 dX8_writeRatio_23 rfl rfl ?_
    refine r_bipush dX8_writeRatio_24 (by decide) (by decide) ?_
    refine r_invV (M := mX8_writeRatio) (As := [(0, 47)]) (st := []) (X := v0) (mc := 0) (ms := 0) (fc := 0) (fs := 0) h ok_X8_write cls8 im_X8_write se_X8_write ml_RX8_52 dX8_writeRatio_26 rfl h1 h2 (Nat.le_of_ble_eq_true rfl) rfl ?_
    rintro r K1 H19 ⟨rfl, rfl, h⟩ -
    show Fr mX8_writeRatio (d + 1) 0 0 none 29 [(0, (2, v0)), (1, (0, v1)), (2, (2, v2))] [] _ H19 _
    refine r_aload_n 0 dX8_writeRatio_29 rfl rfl ?_
    refine r_aload_n 2 dX8_writeRatio_30 rfl rfl ?_
    refine r_getf cls3 1 dX8_writeRatio_31 (by decide) fl_RX8_63 rfl h15 h16 ?_
    refine r_invV (M := mX8_writeRatio) (As := [(2, (H19 (v2 : Int).toNat 1))]) (st := []) (X := v0) (mc := 0) (ms := 0) (fc := 0) (fs := 0) h ok_X8_writeWhole cls8 im_X8_writeWhole se_X8_writeWhole ml_RX8_59 dX8_writeRatio_34 rfl h1 h2 (Nat.le_of_ble_eq_true rfl) rfl ?_
    rintro r K1 H21 ⟨rfl, rfl, h⟩ -
    show Fr mX8_writeRatio (d + 1) 0 0 none 37 [(0, (2, v0)), (1, (0, v1)), (2, (2, v2))] [] _ H21 _
    exact r_vret dX8_writeRatio_37 rfl ⟨rfl, rfl, h⟩
set_option maxHeartbeats 4000000 in
set_option maxRecDepth 20000 in
theorem eX8_writeRatio {d : Nat} {K : Shp} {H : Mem} {q : Mem → Prop} {v0 v1 v2 : Int} (h : inI v1 → Rng K H → FX8_writeRatio_0 d K H q v0 v1 v2) : Cv mX8_writeRatio (d + 1) [(2, v0), (0, v1), (2, v2)] K H q := Call.of rfl (Nat.le_of_ble_eq_true rfl) (fun o r => h (o (0, v1) (by simp)) r)
def FX8_writeWhole_0 (d : Nat) (K : Shp) (H : Mem) (q : Mem → Prop) (v0 : Int) (v1 : Int) : Prop := Fr mX8_writeWhole (d + 1) 0 0 none 0 [(0, (2, v0)), (1, (2, v1))] [] K H (qv K q)
def FX8_writeWhole_4 (d : Nat) (K : Shp) (H : Mem) (q : Mem → Prop) (v0 : Int) (v1 : Int) (v2 : Int) (v3 : Int) : Prop := Fr mX8_writeWhole (d + 1) 0 0 none 4 [(0, (2, v0)), (1, (2, v1)), (2, (0, v2)), (3, (0, v3))] [] K H (qv K q)
def FX8_writeWhole_13 (d : Nat) (K : Shp) (H : Mem) (q : Mem → Prop) (v0 : Int) (v1 : Int) (v2 : Int) (v3 : Int) (v4 : Int) : Prop := Fr mX8_writeWhole (d + 1) 0 0 none 13 [(0, (2, v0)), (1, (2, v1)), (2, (0, v2)), (3, (0, v3)), (4, (1, v4))] [] K H (qv K q)
set_option maxHeartbeats 4000000 in
set_option maxRecDepth 20000 in
theorem bX8_writeWhole_0 {d : Nat} {K : Shp} {H : Mem} {q : Mem → Prop} {v0 v1 : Int} (h : FX8_writeWhole_4 d K H q (v0) (v1) (0) (5)) : FX8_writeWhole_0 d K H q (v0) (v1) := by
  unfold FX8_writeWhole_0
  refine r_iconst dX8_writeWhole_0 (by decide) (by decide) ?_
  refine r_istore_n dX8_writeWhole_1 rfl (by decide) rfl ?_
  refine r_iconst dX8_writeWhole_2 (by decide) (by decide) ?_
  refine r_istore_n dX8_writeWhole_3 rfl (by decide) rfl ?_
  refine Fr.fewer [2, 3, 1, 0] rfl ?_
  exact h
set_option maxHeartbeats 4000000 in
set_option maxRecDepth 20000 in
theorem bX8_writeWhole_4 {d : Nat} {K : Shp} {H : Mem} {q : Mem → Prop} {v0 v1 v2 v3 : Int} (h : (((v3 : Int) < 0 → q H) ∧ (¬ (v3 : Int) < 0 → FX8_writeWhole_13 d K H q (v0) (v1) (v2) (v3) (100000000)))) : FX8_writeWhole_4 d K H q (v0) (v1) (v2) (v3) := by
  unfold FX8_writeWhole_4
  refine r_iload_n 3 dX8_writeWhole_4 rfl rfl ?_
  refine r_if_lt (tgt := 96) dX8_writeWhole_5 (by decide) (fun c1 => ?_) (fun c1 => ?_)
  · replace h := h.1 c1
    exact r_vret dX8_writeWhole_96 rfl ⟨rfl, rfl, h⟩
  · replace h := h.2 c1
    refine r_ldc2 (x := 100000000) dX8_writeWhole_8 kl_RX8_65 (by decide) (by decide) ?_
    refine r_lstore dX8_writeWhole_11 (by decide) rfl ?_
    refine Fr.fewer [1, 2, 3, 4, 0] rfl ?_
    exact h
set_option maxHeartbeats 4000000 in
set_option maxRecDepth 20000 in
theorem bX8_writeWhole_13 {d : Nat} {K : Shp} {H : Mem} {q : Mem → Prop} {v0 v1 v2 v3 v4 : Int} (h : (((v4 : Int) ≤ 0 → (inI (v3 + (-1))) ∧ FX8_writeWhole_4 d K H q (v0) (v1) (v2) ((v3 + (-1)))) ∧ (¬ (v4 : Int) ≤ 0 → ((0 : Int) ≤ v1) ∧ (K[(v1 : Int).toNat]? = some (10, 1)) ∧ ((0 : Int) ≤ (H (v1 : Int).toNat 0)) ∧ ∃ n6 : Nat, (K[((H (v1 : Int).toNat 0) : Int).toNat]? = some (21, n6)) ∧ ((0 : Int) ≤ v3) ∧ ((v3 : Int) < n6) ∧ ((v4 : Int) ≠ 0) ∧ (inL (Int.tdiv (H ((H (v1 : Int).toNat 0) : Int).toNat (v3 : Int).toNat) v4)) ∧ (inL (Int.tmod (Int.tdiv (H ((H (v1 : Int).toNat 0) : Int).toNat (v3 : Int).toNat) v4) 10)) ∧ ((¬ (v2 : Int) = 0 → (inL (48 + (Int.tmod (Int.tdiv (H ((H (v1 : Int).toNat 0) : Int).toNat (v3 : Int).toNat) v4) 10))) ∧ (inI (48 + (Int.tmod (Int.tdiv (H ((H (v1 : Int).toNat 0) : Int).toNat (v3 : Int).toNat) v4) 10))) ∧ ((0 : Int) ≤ (48 + (Int.tmod (Int.tdiv (H ((H (v1 : Int).toNat 0) : Int).toNat (v3 : Int).toNat) v4) 10))) ∧ (((48 + (Int.tmod (Int.tdiv (H ((H (v1 : Int).toNat 0) : Int).toNat (v3 : Int).toNat) v4) 10)) : Int) < 65536) ∧ ((0 : Int) ≤ v0) ∧ (K[(v0 : Int).toNat]? = some (8, 3)) ∧ Cv mX8_write d [(2, v0), (0, (48 + (Int.tmod (Int.tdiv (H ((H (v1 : Int).toNat 0) : Int).toNat (v3 : Int).toNat) v4) 10)))] K H (fun H21 => (inL (Int.tdiv v4 10)) ∧ FX8_writeWhole_13 d K H21 q (v0) (v1) (1) (v3) ((Int.tdiv v4 10)))) ∧ ((v2 : Int) = 0 → ((¬ ((Int.tmod (Int.tdiv (H ((H (v1 : Int).toNat 0) : Int).toNat (v3 : Int).toNat) v4) 10) : Int) = 0 → (inL (48 + (Int.tmod (Int.tdiv (H ((H (v1 : Int).toNat 0) : Int).toNat (v3 : Int).toNat) v4) 10))) ∧ (inI (48 + (Int.tmod (Int.tdiv (H ((H (v1 : Int).toNat 0) : Int).toNat (v3 : Int).toNat) v4) 10))) ∧ ((0 : Int) ≤ (48 + (Int.tmod (Int.tdiv (H ((H (v1 : Int).toNat 0) : Int).toNat (v3 : Int).toNat) v4) 10))) ∧ (((48 + (Int.tmod (Int.tdiv (H ((H (v1 : Int).toNat 0) : Int).toNat (v3 : Int).toNat) v4) 10)) : Int) < 65536) ∧ ((0 : Int) ≤ v0) ∧ (K[(v0 : Int).toNat]? = some (8, 3)) ∧ Cv mX8_write d [(2, v0), (0, (48 + (Int.tmod (Int.tdiv (H ((H (v1 : Int).toNat 0) : Int).toNat (v3 : Int).toNat) v4) 10)))] K H (fun H32 => (inL (Int.tdiv v4 10)) ∧ FX8_writeWhole_13 d K H32 q (v0) (v1) (1) (v3) ((Int.tdiv v4 10)))) ∧ (((Int.tmod (Int.tdiv (H ((H (v1 : Int).toNat 0) : Int).toNat (v3 : Int).toNat) v4) 10) : Int) = 0 → ((¬ (v3 : Int) = 0 → (inL (Int.tdiv v4 10)) ∧ FX8_writeWhole_13 d K H q (v0) (v1) (0) (v3) ((Int.tdiv v4 10))) ∧ ((v3 : Int) = 0 → ((¬ (v4 : Int) = 1 → (inL (Int.tdiv v4 10)) ∧ FX8_writeWhole_13 d K H q (v0) (v1) (0) (v3) ((Int.tdiv v4 10))) ∧ ((v4 : Int) = 1 → (inL (48 + (Int.tmod (Int.tdiv (H ((H (v1 : Int).toNat 0) : Int).toNat (v3 : Int).toNat) v4) 10))) ∧ (inI (48 + (Int.tmod (Int.tdiv (H ((H (v1 : Int).toNat 0) : Int).toNat (v3 : Int).toNat) v4) 10))) ∧ ((0 : Int) ≤ (48 + (Int.tmod (Int.tdiv (H ((H (v1 : Int).toNat 0) : Int).toNat (v3 : Int).toNat) v4) 10))) ∧ (((48 + (Int.tmod (Int.tdiv (H ((H (v1 : Int).toNat 0) : Int).toNat (v3 : Int).toNat) v4) 10)) : Int) < 65536) ∧ ((0 : Int) ≤ v0) ∧ (K[(v0 : Int).toNat]? = some (8, 3)) ∧ Cv mX8_write d [(2, v0), (0, (48 + (Int.tmod (Int.tdiv (H ((H (v1 : Int).toNat 0) : Int).toNat (v3 : Int).toNat) v4) 10)))] K H (fun H48 => (inL (Int.tdiv v4 10)) ∧ FX8_writeWhole_13 d K H48 q (v0) (v1) (1) (v3) ((Int.tdiv v4 10)))))))))))))) : FX8_writeWhole_13 d K H q (v0) (v1) (v2) (v3) (v4) := by
  unfold FX8_writeWhole_13
  refine r_lload 4 dX8_writeWhole_13 rfl ?_
  refine r_lconst0 dX8_writeWhole_15 ?_
  refine r_lcmp dX8_writeWhole_16 ?_
  refine r_if_le (tgt := 90) dX8_writeWhole_17 (by decide) (fun c1 => ?_) (fun c1 => ?_)
  · replace h := h.1 (cmpL_le.mp c1)
    obtain ⟨h2, h⟩ := h
    refine r_iinc 3 dX8_writeWhole_90 (by decide) rfl h2 rfl ?_
    refine r_goto (tgt := 4) dX8_writeWhole_93 (by decide) ?_
    refine Fr.fewer [1, 2, 3, 0] rfl ?_
    exact h
  · replace h := h.2 (fun q => c1 (cmpL_le.mpr q))
    refine r_aload_n 1 dX8_writeWhole_20 rfl rfl ?_
    obtain ⟨h3, h⟩ := h
    obtain ⟨h4, h⟩ := h
    refine r_getf cls10 0 dX8_writeWhole_21 (by decide) fl_RX8_67 rfl h3 h4 ?_
    refine r_iload_n 3 dX8_writeWhole_24 rfl rfl ?_
    obtain ⟨h5, h⟩ := h
    obtain ⟨n6, h⟩ := h
    obtain ⟨h7, h⟩ := h
    obtain ⟨h8, h⟩ := h
    obtain ⟨h9, h⟩ := h
    refine r_lald n6 dX8_writeWhole_25 h5 h7 h8 h9 ?_
    refine r_lload 4 dX8_writeWhole_26 rfl ?_
    obtain ⟨h10, h⟩ := h
    obtain ⟨h11, h⟩ := h
    refine r_ldiv dX8_writeWhole_28 h10 h11 ?_
    refine r_ldc2 (x := 10) dX8_writeWhole_29 kl_RX8_71 (by decide) (by decide) ?_
    obtain ⟨h12, h⟩ := h
    refine r_lrem dX8_writeWhole_32 (by decide) h12 ?_
    refine r_lstore dX8_writeWhole_33 (by decide) rfl ?_
    refine r_iload_n 3 dX8_writeWhole_35 rfl rfl ?_
    refine r_if_ne (tgt := 57) dX8_writeWhole_36 (by decide) (fun c13 => ?_) (fun c13 => ?_)
    · replace h := h.1 c13
      refine r_iconst dX8_writeWhole_57 (by decide) (by decide) ?_
      refine r_goto (tgt := 62) dX8_writeWhole_58 (by decide) ?_
      refine r_istore_n dX8_writeWhole_62 rfl (by decide) rfl ?_
      refine r_iload_n 0 dX8_writeWhole_63 rfl rfl ?_
      refine r_if_eq (tgt := 79) dX8_writeWhole_64 (by decide) (fun c14 => ?_) (fun c14 => ?_)
      · exact absurd c14 (by decide)
      · skip
        refine r_aload_n 2 dX8_writeWhole_67 rfl rfl ?_
        refine r_ldc2 (x := 48) dX8_writeWhole_68 kl_RX8_73 (by decide) (by decide) ?_
        refine r_lload 1 dX8_writeWhole_71 rfl ?_
        obtain ⟨h15, h⟩ := h
        refine r_ladd dX8_writeWhole_73 h15 ?_
        obtain ⟨h16, h⟩ := h
        refine r_l2i dX8_writeWhole_74 h16 ?_
        obtain ⟨h17, h⟩ := h
        obtain ⟨h18, h⟩ := h
        refine r_i2c dX8_writeWhole_75 h17 h18 ?_
        obtain ⟨h19, h⟩ := h
        obtain ⟨h20, h⟩ := h
        refine r_invV (M := mX8_writeWhole) (As := [(0, (48 + (Int.tmod (Int.tdiv (H ((H (v1 : Int).toNat 0) : Int).toNat (v3 : Int).toNat) v4) 10)))]) (st := []) (X := v0) (mc := 0) (ms := 0) (fc := 0) (fs := 0) h ok_X8_write cls8 im_X8_write se_X8_write ml_RX8_52 dX8_writeWhole_76 rfl h19 h20 (Nat.le_of_ble_eq_true rfl) rfl ?_
        rintro r K1 H21 ⟨rfl, rfl, h⟩ -
        show Fr mX8_writeWhole (d + 1) 0 0 none 79 [(2, (0, 1)), (6, (1, (Int.tmod (Int.tdiv (H ((H (v1 : Int).toNat 0) : Int).toNat (v3 : Int).toNat) v4) 10))), (0, (2, v0)), (1, (2, v1)), (3, (0, v3)), (4, (1, v4))] [] _ H21 _
        refine r_lload 5 dX8_writeWhole_79 rfl ?_
        refine r_ldc2 (x := 10) dX8_writeWhole_81 kl_RX8_71 (by decide) (by decide) ?_
        obtain ⟨h23, h⟩ := h
        refine r_ldiv dX8_writeWhole_84 (by decide) h23 ?_
        refine r_lstore dX8_writeWhole_85 (by decide) rfl ?_
        refine r_goto (tgt := 13) dX8_writeWhole_87 (by decide) ?_
        refine Fr.fewer [3, 4, 1, 5, 0] rfl ?_
        exact h
    · replace h := h.2 c13
      refine r_lload 0 dX8_writeWhole_39 rfl ?_
      refine r_lconst0 dX8_writeWhole_41 ?_
      refine r_lcmp dX8_writeWhole_42 ?_
      refine r_if_ne (tgt := 57) dX8_writeWhole_43 (by decide) (fun c24 => ?_) (fun c24 => ?_)
      · replace h := h.1 (fun q => c24 (cmpL_eq.mpr q))
        refine r_iconst dX8_writeWhole_57 (by decide) (by decide) ?_
        refine r_goto (tgt := 62) dX8_writeWhole_58 (by decide) ?_
        refine r_istore_n dX8_writeWhole_62 rfl (by decide) rfl ?_
        refine r_iload_n 0 dX8_writeWhole_63 rfl rfl ?_
        refine r_if_eq (tgt := 79) dX8_writeWhole_64 (by decide) (fun c25 => ?_) (fun c25 => ?_)
        · exact absurd c25 (by decide)
        · skip
          refine r_aload_n 2 dX8_writeWhole_67 rfl rfl ?_
          refine r_ldc2 (x := 48) dX8_writeWhole_68 kl_RX8_73 (by decide) (by decide) ?_
          refine r_lload 1 dX8_writeWhole_71 rfl ?_
          obtain ⟨h26, h⟩ := h
          refine r_ladd dX8_writeWhole_73 h26 ?_
          obtain ⟨h27, h⟩ := h
          refine r_l2i dX8_writeWhole_74 h27 ?_
          obtain ⟨h28, h⟩ := h
          obtain ⟨h29, h⟩ := h
          refine r_i2c dX8_writeWhole_75 h28 h29 ?_
          obtain ⟨h30, h⟩ := h
          obtain ⟨h31, h⟩ := h
          refine r_invV (M := mX8_writeWhole) (As := [(0, (48 + (Int.tmod (Int.tdiv (H ((H (v1 : Int).toNat 0) : Int).toNat (v3 : Int).toNat) v4) 10)))]) (st := []) (X := v0) (mc := 0) (ms := 0) (fc := 0) (fs := 0) h ok_X8_write cls8 im_X8_write se_X8_write ml_RX8_52 dX8_writeWhole_76 rfl h30 h31 (Nat.le_of_ble_eq_true rfl) rfl ?_
          rintro r K1 H32 ⟨rfl, rfl, h⟩ -
          show Fr mX8_writeWhole (d + 1) 0 0 none 79 [(2, (0, 1)), (6, (1, (Int.tmod (Int.tdiv (H ((H (v1 : Int).toNat 0) : Int).toNat (v3 : Int).toNat) v4) 10))), (0, (2, v0)), (1, (2, v1)), (3, (0, v3)), (4, (1, v4))] [] _ H32 _
          refine r_lload 5 dX8_writeWhole_79 rfl ?_
          refine r_ldc2 (x := 10) dX8_writeWhole_81 kl_RX8_71 (by decide) (by decide) ?_
          obtain ⟨h34, h⟩ := h
          refine r_ldiv dX8_writeWhole_84 (by decide) h34 ?_
          refine r_lstore dX8_writeWhole_85 (by decide) rfl ?_
          refine r_goto (tgt := 13) dX8_writeWhole_87 (by decide) ?_
          refine Fr.fewer [3, 4, 1, 5, 0] rfl ?_
          exact h
      · replace h := h.2 (cmpL_eq.mp c24)
        refine r_iload_n 4 dX8_writeWhole_46 rfl rfl ?_
        refine r_if_ne (tgt := 61) dX8_writeWhole_47 (by decide) (fun c35 => ?_) (fun c35 => ?_)
        · replace h := h.1 c35
          refine r_iconst dX8_writeWhole_61 (by decide) (by decide) ?_
          refine r_istore_n dX8_writeWhole_62 rfl (by decide) rfl ?_
          refine r_iload_n 0 dX8_writeWhole_63 rfl rfl ?_
          refine r_if_eq (tgt := 79) dX8_writeWhole_64 (by decide) (fun c36 => ?_) (fun c36 => ?_)
          · skip
            refine r_lload 5 dX8_writeWhole_79 rfl ?_
            refine r_ldc2 (x := 10) dX8_writeWhole_81 kl_RX8_71 (by decide) (by decide) ?_
            obtain ⟨h37, h⟩ := h
            refine r_ldiv dX8_writeWhole_84 (by decide) h37 ?_
            refine r_lstore dX8_writeWhole_85 (by decide) rfl ?_
            refine r_goto (tgt := 13) dX8_writeWhole_87 (by decide) ?_
            refine Fr.fewer [3, 4, 1, 5, 0] rfl ?_
            exact h
          · exact absurd (by decide) c36
        · replace h := h.2 c35
          refine r_lload 5 dX8_writeWhole_50 rfl ?_
          refine r_lconst1 dX8_writeWhole_52 ?_
          refine r_lcmp dX8_writeWhole_53 ?_
          refine r_if_ne (tgt := 61) dX8_writeWhole_54 (by decide) (fun c38 => ?_) (fun c38 => ?_)
          · replace h := h.1 (fun q => c38 (cmpL_eq.mpr q))
            refine r_iconst dX8_writeWhole_61 (by decide) (by decide) ?_
            refine r_istore_n dX8_writeWhole_62 rfl (by decide) rfl ?_
            refine r_iload_n 0 dX8_writeWhole_63 rfl rfl ?_
            refine r_if_eq (tgt := 79) dX8_writeWhole_64 (by decide) (fun c39 => ?_) (fun c39 => ?_)
            · skip
              refine r_lload 5 dX8_writeWhole_79 rfl ?_
              refine r_ldc2 (x := 10) dX8_writeWhole_81 kl_RX8_71 (by decide) (by decide) ?_
              obtain ⟨h40, h⟩ := h
              refine r_ldiv dX8_writeWhole_84 (by decide) h40 ?_
              refine r_lstore dX8_writeWhole_85 (by decide) rfl ?_
              refine r_goto (tgt := 13) dX8_writeWhole_87 (by decide) ?_
              refine Fr.fewer [3, 4, 1, 5, 0] rfl ?_
              exact h
            · exact absurd (by decide) c39
          · replace h := h.2 (cmpL_eq.mp c38)
            refine r_iconst dX8_writeWhole_57 (by decide) (by decide) ?_
            refine r_goto (tgt := 62) dX8_writeWhole_58 (by decide) ?_
            refine r_istore_n dX8_writeWhole_62 rfl (by decide) rfl ?_
            refine r_iload_n 0 dX8_writeWhole_63 rfl rfl ?_
            refine r_if_eq (tgt := 79) dX8_writeWhole_64 (by decide) (fun c41 => ?_) (fun c41 => ?_)
            · exact absurd c41 (by decide)
            · skip
              refine r_aload_n 2 dX8_writeWhole_67 rfl rfl ?_
              refine r_ldc2 (x := 48) dX8_writeWhole_68 kl_RX8_73 (by decide) (by decide) ?_
              refine r_lload 1 dX8_writeWhole_71 rfl ?_
              obtain ⟨h42, h⟩ := h
              refine r_ladd dX8_writeWhole_73 h42 ?_
              obtain ⟨h43, h⟩ := h
              refine r_l2i dX8_writeWhole_74 h43 ?_
              obtain ⟨h44, h⟩ := h
              obtain ⟨h45, h⟩ := h
              refine r_i2c dX8_writeWhole_75 h44 h45 ?_
              obtain ⟨h46, h⟩ := h
              obtain ⟨h47, h⟩ := h
              refine r_invV (M := mX8_writeWhole) (As := [(0, (48 + (Int.tmod (Int.tdiv (H ((H (v1 : Int).toNat 0) : Int).toNat (v3 : Int).toNat) v4) 10)))]) (st := []) (X := v0) (mc := 0) (ms := 0) (fc := 0) (fs := 0) h ok_X8_write cls8 im_X8_write se_X8_write ml_RX8_52 dX8_writeWhole_76 rfl h46 h47 (Nat.le_of_ble_eq_true rfl) rfl ?_
              rintro r K1 H48 ⟨rfl, rfl, h⟩ -
              show Fr mX8_writeWhole (d + 1) 0 0 none 79 [(2, (0, 1)), (6, (1, (Int.tmod (Int.tdiv (H ((H (v1 : Int).toNat 0) : Int).toNat (v3 : Int).toNat) v4) 10))), (0, (2, v0)), (1, (2, v1)), (3, (0, v3)), (4, (1, v4))] [] _ H48 _
              refine r_lload 5 dX8_writeWhole_79 rfl ?_
              refine r_ldc2 (x := 10) dX8_writeWhole_81 kl_RX8_71 (by decide) (by decide) ?_
              obtain ⟨h50, h⟩ := h
              refine r_ldiv dX8_writeWhole_84 (by decide) h50 ?_
              refine r_lstore dX8_writeWhole_85 (by decide) rfl ?_
              refine r_goto (tgt := 13) dX8_writeWhole_87 (by decide) ?_
              refine Fr.fewer [3, 4, 1, 5, 0] rfl ?_
              exact h
set_option maxHeartbeats 4000000 in
set_option maxRecDepth 20000 in
theorem eX8_writeWhole {d : Nat} {K : Shp} {H : Mem} {q : Mem → Prop} {v0 v1 : Int} (h : Rng K H → FX8_writeWhole_0 d K H q v0 v1) : Cv mX8_writeWhole (d + 1) [(2, v0), (2, v1)] K H q := Call.of rfl (Nat.le_of_ble_eq_true rfl) (fun o r => h  r)
def FX8_write_0 (d : Nat) (K : Shp) (H : Mem) (q : Mem → Prop) (v0 : Int) (v1 : Int) : Prop := Fr mX8_write d 0 0 none 0 [(0, (2, v0)), (1, (0, v1))] [] K H (qv K q)
set_option maxHeartbeats 4000000 in
set_option maxRecDepth 20000 in
theorem bX8_write_0 {d : Nat} {K : Shp} {H : Mem} {q : Mem → Prop} {v0 v1 : Int} (h : ((0 : Int) ≤ v0) ∧ (K[(v0 : Int).toNat]? = some (8, 3)) ∧ ((¬ ((H (v0 : Int).toNat 0) : Int) < 110 → q H) ∧ (((H (v0 : Int).toNat 0) : Int) < 110 → ((0 : Int) ≤ (H (v0 : Int).toNat 1)) ∧ ∃ n5 : Nat, (K[((H (v0 : Int).toNat 1) : Int).toNat]? = some (20, n5)) ∧ ((0 : Int) ≤ (H (v0 : Int).toNat 0)) ∧ (((H (v0 : Int).toNat 0) : Int) < n5) ∧ ∀ H9 : Mem, H9 = upA H ((H (v0 : Int).toNat 1) : Int).toNat (up1 (H ((H (v0 : Int).toNat 1) : Int).toNat) ((H (v0 : Int).toNat 0) : Int).toNat v1) → (inI ((H9 (v0 : Int).toNat 0) + 1)) ∧ ∀ H11 : Mem, H11 = upA H9 (v0 : Int).toNat (up1 (H9 (v0 : Int).toNat) 0 ((H9 (v0 : Int).toNat 0) + 1)) → q H11))) : FX8_write_0 d K H q (v0) (v1) := by
  unfold FX8_write_0
  refine r_aload_n 0 dX8_write_0 rfl rfl ?_
  obtain ⟨h1, h⟩ := h
  obtain ⟨h2, h⟩ := h
  refine r_getf cls8 0 dX8_write_1 (by decide) fl_RX8_9 rfl h1 h2 ?_
  refine r_bipush dX8_write_4 (by decide) (by decide) ?_
  refine r_icmp_ge (tgt := 29) dX8_write_6 (by decide) (fun c3 => ?_) (fun c3 => ?_)
  · replace h := h.1 c3
    exact r_vret dX8_write_29 rfl ⟨rfl, rfl, h⟩
  · replace h := h.2 c3
    refine r_aload_n 0 dX8_write_9 rfl rfl ?_
    refine r_getf cls8 1 dX8_write_10 (by decide) fl_RX8_15 rfl h1 h2 ?_
    refine r_aload_n 0 dX8_write_13 rfl rfl ?_
    refine r_getf cls8 0 dX8_write_14 (by decide) fl_RX8_9 rfl h1 h2 ?_
    refine r_iload_n 1 dX8_write_17 rfl rfl ?_
    obtain ⟨h4, h⟩ := h
    obtain ⟨n5, h⟩ := h
    obtain ⟨h6, h⟩ := h
    obtain ⟨h7, h⟩ := h
    obtain ⟨h8, h⟩ := h
    refine r_iast n5 dX8_write_18 h4 h6 h7 h8 ?_
    replace h := h _ rfl
    generalize upA H ((H (v0 : Int).toNat 1) : Int).toNat (up1 (H ((H (v0 : Int).toNat 1) : Int).toNat) ((H (v0 : Int).toNat 0) : Int).toNat v1) = H9 at h ⊢
    refine r_aload_n 0 dX8_write_19 rfl rfl ?_
    refine r_dup dX8_write_20 (show (2 : Nat) ≠ 1 by decide) ?_
    refine r_getf cls8 0 dX8_write_21 (by decide) fl_RX8_9 rfl h1 h2 ?_
    refine r_iconst dX8_write_24 (by decide) (by decide) ?_
    obtain ⟨h10, h⟩ := h
    refine r_iadd dX8_write_25 h10 ?_
    refine r_putf cls8 0 dX8_write_26 (by decide) rfl fl_RX8_9 rfl h1 h2 (fun o => o) ?_
    replace h := h _ rfl
    generalize upA H9 (v0 : Int).toNat (up1 (H9 (v0 : Int).toNat) 0 ((H9 (v0 : Int).toNat 0) + 1)) = H11 at h ⊢
    exact r_vret dX8_write_29 rfl ⟨rfl, rfl, h⟩
set_option maxHeartbeats 4000000 in
set_option maxRecDepth 20000 in
theorem eX8_write {d : Nat} {K : Shp} {H : Mem} {q : Mem → Prop} {v0 v1 : Int} (h : inI v1 → Rng K H → FX8_write_0 d K H q v0 v1) : Cv mX8_write d [(2, v0), (0, v1)] K H q := Call.of rfl (Nat.le_of_ble_eq_true rfl) (fun o r => h (o (0, v1) (by simp)) r)
