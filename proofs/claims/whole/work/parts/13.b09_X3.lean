/-! printed by gen/emit.py: what a walk from each cut point asks -/
def FX3_put_0 (d : Nat) (K : Shp) (H : Mem) (q : Mem → Prop) (v0 : Int) (v1 : Int) (v3 : Int) : Prop := Fr mX3_put (d + 1) 0 0 none 0 [(0, (2, v0)), (1, (1, v1)), (3, (1, v3))] [] K H (qv K q)
set_option maxHeartbeats 4000000 in
set_option maxRecDepth 20000 in
theorem bX3_put_0 {d : Nat} {K : Shp} {H : Mem} {q : Mem → Prop} {v0 v1 v3 : Int} (h : ((0 : Int) ≤ v0) ∧ (K[(v0 : Int).toNat]? = some (3, 5)) ∧ ((0 : Int) ≤ (H (v0 : Int).toNat 0)) ∧ (K[((H (v0 : Int).toNat 0) : Int).toNat]? = some (10, 1)) ∧ Cv mX10_put d [(2, (H (v0 : Int).toNat 0)), (1, v1)] K H (fun H5 => ((0 : Int) ≤ (H5 (v0 : Int).toNat 1)) ∧ (K[((H5 (v0 : Int).toNat 1) : Int).toNat]? = some (10, 1)) ∧ Cv mX10_put d [(2, (H5 (v0 : Int).toNat 1)), (1, v3)] K H5 (fun H9 => q H9))) : FX3_put_0 d K H q (v0) (v1) (v3) := by
  unfold FX3_put_0
  refine r_aload_n 0 dX3_put_0 rfl rfl ?_
  obtain ⟨h1, h⟩ := h
  obtain ⟨h2, h⟩ := h
  refine r_getf cls3 0 dX3_put_1 (by decide) fl_RX3_10 rfl h1 h2 ?_
  refine r_lload_n 1 dX3_put_4 rfl rfl ?_
  obtain ⟨h3, h⟩ := h
  obtain ⟨h4, h⟩ := h
  refine r_invV (M := mX3_put) (As := [(1, v1)]) (st := []) (X := (H (v0 : Int).toNat 0)) (mc := 0) (ms := 0) (fc := 0) (fs := 0) h ok_X10_put cls10 im_X10_put se_X10_put ml_RX3_28 dX3_put_5 rfl h3 h4 (Nat.le_of_ble_eq_true rfl) rfl ?_
  rintro r K1 H5 ⟨rfl, rfl, h⟩ -
  show Fr mX3_put (d + 1) 0 0 none 8 [(0, (2, v0)), (1, (1, v1)), (3, (1, v3))] [] _ H5 _
  refine r_aload_n 0 dX3_put_8 rfl rfl ?_
  refine r_getf cls3 1 dX3_put_9 (by decide) fl_RX3_16 rfl h1 h2 ?_
  refine r_lload_n 2 dX3_put_12 rfl rfl ?_
  obtain ⟨h7, h⟩ := h
  obtain ⟨h8, h⟩ := h
  refine r_invV (M := mX3_put) (As := [(1, v3)]) (st := []) (X := (H5 (v0 : Int).toNat 1)) (mc := 0) (ms := 0) (fc := 0) (fs := 0) h ok_X10_put cls10 im_X10_put se_X10_put ml_RX3_28 dX3_put_13 rfl h7 h8 (Nat.le_of_ble_eq_true rfl) rfl ?_
  rintro r K1 H9 ⟨rfl, rfl, h⟩ -
  show Fr mX3_put (d + 1) 0 0 none 16 [(0, (2, v0)), (1, (1, v1)), (3, (1, v3))] [] _ H9 _
  exact r_vret dX3_put_16 rfl ⟨rfl, rfl, h⟩
set_option maxHeartbeats 4000000 in
set_option maxRecDepth 20000 in
theorem eX3_put {d : Nat} {K : Shp} {H : Mem} {q : Mem → Prop} {v0 v1 v3 : Int} (h : inL v1 → inL v3 → Rng K H → FX3_put_0 d K H q v0 v1 v3) : Cv mX3_put (d + 1) [(2, v0), (1, v1), (1, v3)] K H q := Call.of rfl (Nat.le_of_ble_eq_true rfl) (fun o r => h (o (1, v1) (by simp)) (o (1, v3) (by simp)) r)
def FX3_copy_0 (d : Nat) (K : Shp) (H : Mem) (q : Mem → Prop) (v0 : Int) (v1 : Int) : Prop := Fr mX3_copy (d + 1) 0 0 none 0 [(0, (2, v0)), (1, (2, v1))] [] K H (qv K q)
set_option maxHeartbeats 4000000 in
set_option maxRecDepth 20000 in
theorem bX3_copy_0 {d : Nat} {K : Shp} {H : Mem} {q : Mem → Prop} {v0 v1 : Int} (h : ((0 : Int) ≤ v0) ∧ (K[(v0 : Int).toNat]? = some (3, 5)) ∧ ((0 : Int) ≤ v1) ∧ (K[(v1 : Int).toNat]? = some (3, 5)) ∧ ((0 : Int) ≤ (H (v0 : Int).toNat 0)) ∧ (K[((H (v0 : Int).toNat 0) : Int).toNat]? = some (10, 1)) ∧ Cv mX10_copy d [(2, (H (v0 : Int).toNat 0)), (2, (H (v1 : Int).toNat 0))] K H (fun H7 => ((0 : Int) ≤ (H7 (v0 : Int).toNat 1)) ∧ (K[((H7 (v0 : Int).toNat 1) : Int).toNat]? = some (10, 1)) ∧ Cv mX10_copy d [(2, (H7 (v0 : Int).toNat 1)), (2, (H7 (v1 : Int).toNat 1))] K H7 (fun H11 => q H11))) : FX3_copy_0 d K H q (v0) (v1) := by
  unfold FX3_copy_0
  refine r_aload_n 0 dX3_copy_0 rfl rfl ?_
  obtain ⟨h1, h⟩ := h
  obtain ⟨h2, h⟩ := h
  refine r_getf cls3 0 dX3_copy_1 (by decide) fl_RX3_10 rfl h1 h2 ?_
  refine r_aload_n 1 dX3_copy_4 rfl rfl ?_
  obtain ⟨h3, h⟩ := h
  obtain ⟨h4, h⟩ := h
  refine r_getf cls3 0 dX3_copy_5 (by decide) fl_RX3_10 rfl h3 h4 ?_
  obtain ⟨h5, h⟩ := h
  obtain ⟨h6, h⟩ := h
  refine r_invV (M := mX3_copy) (As := [(2, (H (v1 : Int).toNat 0))]) (st := []) (X := (H (v0 : Int).toNat 0)) (mc := 0) (ms := 0) (fc := 0) (fs := 0) h ok_X10_copy cls10 im_X10_copy se_X10_copy ml_RX3_32 dX3_copy_8 rfl h5 h6 (Nat.le_of_ble_eq_true rfl) rfl ?_
  rintro r K1 H7 ⟨rfl, rfl, h⟩ -
  show Fr mX3_copy (d + 1) 0 0 none 11 [(0, (2, v0)), (1, (2, v1))] [] _ H7 _
  refine r_aload_n 0 dX3_copy_11 rfl rfl ?_
  refine r_getf cls3 1 dX3_copy_12 (by decide) fl_RX3_16 rfl h1 h2 ?_
  refine r_aload_n 1 dX3_copy_15 rfl rfl ?_
  refine r_getf cls3 1 dX3_copy_16 (by decide) fl_RX3_16 rfl h3 h4 ?_
  obtain ⟨h9, h⟩ := h
  obtain ⟨h10, h⟩ := h
  refine r_invV (M := mX3_copy) (As := [(2, (H7 (v1 : Int).toNat 1))]) (st := []) (X := (H7 (v0 : Int).toNat 1)) (mc := 0) (ms := 0) (fc := 0) (fs := 0) h ok_X10_copy cls10 im_X10_copy se_X10_copy ml_RX3_32 dX3_copy_19 rfl h9 h10 (Nat.le_of_ble_eq_true rfl) rfl ?_
  rintro r K1 H11 ⟨rfl, rfl, h⟩ -
  show Fr mX3_copy (d + 1) 0 0 none 22 [(0, (2, v0)), (1, (2, v1))] [] _ H11 _
  exact r_vret dX3_copy_22 rfl ⟨rfl, rfl, h⟩
set_option maxHeartbeats 4000000 in
set_option maxRecDepth 20000 in
theorem eX3_copy {d : Nat} {K : Shp} {H : Mem} {q : Mem → Prop} {v0 v1 : Int} (h : Rng K H → FX3_copy_0 d K H q v0 v1) : Cv mX3_copy (d + 1) [(2, v0), (2, v1)] K H q := Call.of rfl (Nat.le_of_ble_eq_true rfl) (fun o r => h  r)
def FX3_putSum_0 (d : Nat) (K : Shp) (H : Mem) (q : Mem → Prop) (v0 : Int) (v1 : Int) (v2 : Int) : Prop := Fr mX3_putSum (d + 1) 0 0 none 0 [(0, (2, v0)), (1, (2, v1)), (2, (2, v2))] [] K H (qv K q)
set_option maxHeartbeats 4000000 in
set_option maxRecDepth 20000 in
theorem bX3_putSum_0 {d : Nat} {K : Shp} {H : Mem} {q : Mem → Prop} {v0 v1 v2 : Int} (h : ((0 : Int) ≤ v1) ∧ (K[(v1 : Int).toNat]? = some (5, 2)) ∧ ((0 : Int) ≤ v2) ∧ (K[(v2 : Int).toNat]? = some (5, 2)) ∧ Cl mX11_commonDivisor d [(1, (H (v1 : Int).toNat 1)), (1, (H (v2 : Int).toNat 1))] K H (fun x6 H5 => ((0 : Int) ≤ v0) ∧ (K[(v0 : Int).toNat]? = some (3, 5)) ∧ ((0 : Int) ≤ (H5 (v0 : Int).toNat 2)) ∧ (K[((H5 (v0 : Int).toNat 2) : Int).toNat]? = some (10, 1)) ∧ Cv mX10_put d [(2, (H5 (v0 : Int).toNat 2)), (1, (H5 (v1 : Int).toNat 0))] K H5 (fun H11 => (((max 1 x6) : Int) ≠ 0) ∧ (inL (Int.tdiv (H11 (v2 : Int).toNat 1) (max 1 x6))) ∧ ((0 : Int) ≤ (H11 (v0 : Int).toNat 3)) ∧ (K[((H11 (v0 : Int).toNat 3) : Int).toNat]? = some (10, 1)) ∧ Cv mX10_put d [(2, (H11 (v0 : Int).toNat 3)), (1, (Int.tdiv (H11 (v2 : Int).toNat 1) (max 1 x6)))] K H11 (fun H17 => ((0 : Int) ≤ (H17 (v0 : Int).toNat 0)) ∧ (K[((H17 (v0 : Int).toNat 0) : Int).toNat]? = some (10, 1)) ∧ Cv mX10_product d [(2, (H17 (v0 : Int).toNat 0)), (2, (H17 (v0 : Int).toNat 2)), (2, (H17 (v0 : Int).toNat 3))] K H17 (fun H21 => ((0 : Int) ≤ (H21 (v0 : Int).toNat 2)) ∧ (K[((H21 (v0 : Int).toNat 2) : Int).toNat]? = some (10, 1)) ∧ Cv mX10_put d [(2, (H21 (v0 : Int).toNat 2)), (1, (H21 (v2 : Int).toNat 0))] K H21 (fun H25 => (inL (Int.tdiv (H25 (v1 : Int).toNat 1) (max 1 x6))) ∧ ((0 : Int) ≤ (H25 (v0 : Int).toNat 3)) ∧ (K[((H25 (v0 : Int).toNat 3) : Int).toNat]? = some (10, 1)) ∧ Cv mX10_put d [(2, (H25 (v0 : Int).toNat 3)), (1, (Int.tdiv (H25 (v1 : Int).toNat 1) (max 1 x6)))] K H25 (fun H30 => ((0 : Int) ≤ (H30 (v0 : Int).toNat 4)) ∧ (K[((H30 (v0 : Int).toNat 4) : Int).toNat]? = some (10, 1)) ∧ Cv mX10_product d [(2, (H30 (v0 : Int).toNat 4)), (2, (H30 (v0 : Int).toNat 2)), (2, (H30 (v0 : Int).toNat 3))] K H30 (fun H34 => ((0 : Int) ≤ (H34 (v0 : Int).toNat 0)) ∧ (K[((H34 (v0 : Int).toNat 0) : Int).toNat]? = some (10, 1)) ∧ Cv mX10_plus d [(2, (H34 (v0 : Int).toNat 0)), (2, (H34 (v0 : Int).toNat 4))] K H34 (fun H38 => ((0 : Int) ≤ (H38 (v0 : Int).toNat 0)) ∧ (K[((H38 (v0 : Int).toNat 0) : Int).toNat]? = some (10, 1)) ∧ Cl mX10_restBy d [(2, (H38 (v0 : Int).toNat 0)), (1, (max 1 x6))] K H38 (fun x43 H42 => Cl mX11_commonDivisor d [(1, (max 1 x6)), (1, x43)] K H42 (fun x45 H44 => ((0 : Int) ≤ (H44 (v0 : Int).toNat 0)) ∧ (K[((H44 (v0 : Int).toNat 0) : Int).toNat]? = some (10, 1)) ∧ Cv mX10_divide d [(2, (H44 (v0 : Int).toNat 0)), (1, (max 1 x45))] K H44 (fun H48 => (inL (Int.tdiv (H48 (v1 : Int).toNat 1) (max 1 x6))) ∧ ((0 : Int) ≤ (H48 (v0 : Int).toNat 2)) ∧ (K[((H48 (v0 : Int).toNat 2) : Int).toNat]? = some (10, 1)) ∧ Cv mX10_put d [(2, (H48 (v0 : Int).toNat 2)), (1, (Int.tdiv (H48 (v1 : Int).toNat 1) (max 1 x6)))] K H48 (fun H53 => (((max 1 x45) : Int) ≠ 0) ∧ (inL (Int.tdiv (H53 (v2 : Int).toNat 1) (max 1 x45))) ∧ ((0 : Int) ≤ (H53 (v0 : Int).toNat 3)) ∧ (K[((H53 (v0 : Int).toNat 3) : Int).toNat]? = some (10, 1)) ∧ Cv mX10_put d [(2, (H53 (v0 : Int).toNat 3)), (1, (Int.tdiv (H53 (v2 : Int).toNat 1) (max 1 x45)))] K H53 (fun H59 => ((0 : Int) ≤ (H59 (v0 : Int).toNat 1)) ∧ (K[((H59 (v0 : Int).toNat 1) : Int).toNat]? = some (10, 1)) ∧ Cv mX10_product d [(2, (H59 (v0 : Int).toNat 1)), (2, (H59 (v0 : Int).toNat 2)), (2, (H59 (v0 : Int).toNat 3))] K H59 (fun H63 => q H63))))))))))))))) : FX3_putSum_0 d K H q (v0) (v1) (v2) := by
  unfold FX3_putSum_0
  refine r_lconst1 dX3_putSum_0 ?_
  refine r_aload_n 1 dX3_putSum_1 rfl rfl ?_
  obtain ⟨h1, h⟩ := h
  obtain ⟨h2, h⟩ := h
  refine r_getf cls5 1 dX3_putSum_2 (by decide) fl_RX3_36 rfl h1 h2 ?_
  refine r_aload_n 2 dX3_putSum_5 rfl rfl ?_
  obtain ⟨h3, h⟩ := h
  obtain ⟨h4, h⟩ := h
  refine r_getf cls5 1 dX3_putSum_6 (by decide) fl_RX3_36 rfl h3 h4 ?_
  refine r_invSN (M := mX3_putSum) (As := [(1, (H (v1 : Int).toNat 1)), (1, (H (v2 : Int).toNat 1))]) (st := [(1, 1)]) (mc := 0) (ms := 0) (fc := 0) (fs := 0) h ok_X11_commonDivisor sm_X11_commonDivisor mn_RX3_41 dX3_putSum_9 rfl (Nat.le_of_ble_eq_true rfl) rfl ?_
  rintro r K1 H5 ⟨rfl, x6, rfl, h⟩ -
  show Fr mX3_putSum (d + 1) 0 0 none 12 [(0, (2, v0)), (1, (2, v1)), (2, (2, v2))] [(1, x6), (1, 1)] _ H5 _
  refine r_maxl dX3_putSum_12 ml_RX3_47 (Nat.le_of_ble_eq_true rfl) ?_
  refine r_lstore_n dX3_putSum_15 rfl (by decide) rfl ?_
  refine r_aload_n 1 dX3_putSum_16 rfl rfl ?_
  obtain ⟨h7, h⟩ := h
  obtain ⟨h8, h⟩ := h
  refine r_getf cls3 2 dX3_putSum_17 (by decide) fl_RX3_19 rfl h7 h8 ?_
  refine r_aload_n 2 dX3_putSum_20 rfl rfl ?_
  refine r_getf cls5 0 dX3_putSum_21 (by decide) fl_RX3_52 rfl h1 h2 ?_
  obtain ⟨h9, h⟩ := h
  obtain ⟨h10, h⟩ := h
  refine r_invV (M := mX3_putSum) (As := [(1, (H5 (v1 : Int).toNat 0))]) (st := []) (X := (H5 (v0 : Int).toNat 2)) (mc := 0) (ms := 0) (fc := 0) (fs := 0) h ok_X10_put cls10 im_X10_put se_X10_put ml_RX3_28 dX3_putSum_24 rfl h9 h10 (Nat.le_of_ble_eq_true rfl) rfl ?_
  rintro r K1 H11 ⟨rfl, rfl, h⟩ -
  show Fr mX3_putSum (d + 1) 0 0 none 27 [(3, (1, (max 1 x6))), (0, (2, v0)), (1, (2, v1)), (2, (2, v2))] [] _ H11 _
  refine r_aload_n 1 dX3_putSum_27 rfl rfl ?_
  refine r_getf cls3 3 dX3_putSum_28 (by decide) fl_RX3_22 rfl h7 h8 ?_
  refine r_aload_n 3 dX3_putSum_31 rfl rfl ?_
  refine r_getf cls5 1 dX3_putSum_32 (by decide) fl_RX3_36 rfl h3 h4 ?_
  refine r_lload_n 0 dX3_putSum_35 rfl rfl ?_
  obtain ⟨h13, h⟩ := h
  obtain ⟨h14, h⟩ := h
  refine r_ldiv dX3_putSum_36 h13 h14 ?_
  obtain ⟨h15, h⟩ := h
  obtain ⟨h16, h⟩ := h
  refine r_invV (M := mX3_putSum) (As := [(1, (Int.tdiv (H11 (v2 : Int).toNat 1) (max 1 x6)))]) (st := []) (X := (H11 (v0 : Int).toNat 3)) (mc := 0) (ms := 0) (fc := 0) (fs := 0) h ok_X10_put cls10 im_X10_put se_X10_put ml_RX3_28 dX3_putSum_37 rfl h15 h16 (Nat.le_of_ble_eq_true rfl) rfl ?_
  rintro r K1 H17 ⟨rfl, rfl, h⟩ -
  show Fr mX3_putSum (d + 1) 0 0 none 40 [(3, (1, (max 1 x6))), (0, (2, v0)), (1, (2, v1)), (2, (2, v2))] [] _ H17 _
  refine r_aload_n 1 dX3_putSum_40 rfl rfl ?_
  refine r_getf cls3 0 dX3_putSum_41 (by decide) fl_RX3_10 rfl h7 h8 ?_
  refine r_aload_n 1 dX3_putSum_44 rfl rfl ?_
  refine r_getf cls3 2 dX3_putSum_45 (by decide) fl_RX3_19 rfl h7 h8 ?_
  refine r_aload_n 1 dX3_putSum_48 rfl rfl ?_
  refine r_getf cls3 3 dX3_putSum_49 (by decide) fl_RX3_22 rfl h7 h8 ?_
  obtain ⟨h19, h⟩ := h
  obtain ⟨h20, h⟩ := h
  refine r_invV (M := mX3_putSum) (As := [(2, (H17 (v0 : Int).toNat 2)), (2, (H17 (v0 : Int).toNat 3))]) (st := []) (X := (H17 (v0 : Int).toNat 0)) (mc := 0) (ms := 0) (fc := 0) (fs := 0) h ok_X10_product cls10 im_X10_product se_X10_product ml_RX3_54 dX3_putSum_52 rfl h19 h20 (Nat.le_of_ble_eq_true rfl) rfl ?_
  rintro r K1 H21 ⟨rfl, rfl, h⟩ -
  show Fr mX3_putSum (d + 1) 0 0 none 55 [(3, (1, (max 1 x6))), (0, (2, v0)), (1, (2, v1)), (2, (2, v2))] [] _ H21 _
  refine r_aload_n 1 dX3_putSum_55 rfl rfl ?_
  refine r_getf cls3 2 dX3_putSum_56 (by decide) fl_RX3_19 rfl h7 h8 ?_
  refine r_aload_n 3 dX3_putSum_59 rfl rfl ?_
  refine r_getf cls5 0 dX3_putSum_60 (by decide) fl_RX3_52 rfl h3 h4 ?_
  obtain ⟨h23, h⟩ := h
  obtain ⟨h24, h⟩ := h
  refine r_invV (M := mX3_putSum) (As := [(1, (H21 (v2 : Int).toNat 0))]) (st := []) (X := (H21 (v0 : Int).toNat 2)) (mc := 0) (ms := 0) (fc := 0) (fs := 0) h ok_X10_put cls10 im_X10_put se_X10_put ml_RX3_28 dX3_putSum_63 rfl h23 h24 (Nat.le_of_ble_eq_true rfl) rfl ?_
  rintro r K1 H25 ⟨rfl, rfl, h⟩ -
  show Fr mX3_putSum (d + 1) 0 0 none 66 [(3, (1, (max 1 x6))), (0, (2, v0)), (1, (2, v1)), (2, (2, v2))] [] _ H25 _
  refine r_aload_n 1 dX3_putSum_66 rfl rfl ?_
  refine r_getf cls3 3 dX3_putSum_67 (by decide) fl_RX3_22 rfl h7 h8 ?_
  refine r_aload_n 2 dX3_putSum_70 rfl rfl ?_
  refine r_getf cls5 1 dX3_putSum_71 (by decide) fl_RX3_36 rfl h1 h2 ?_
  refine r_lload_n 0 dX3_putSum_74 rfl rfl ?_
  obtain ⟨h27, h⟩ := h
  refine r_ldiv dX3_putSum_75 h13 h27 ?_
  obtain ⟨h28, h⟩ := h
  obtain ⟨h29, h⟩ := h
  refine r_invV (M := mX3_putSum) (As := [(1, (Int.tdiv (H25 (v1 : Int).toNat 1) (max 1 x6)))]) (st := []) (X := (H25 (v0 : Int).toNat 3)) (mc := 0) (ms := 0) (fc := 0) (fs := 0) h ok_X10_put cls10 im_X10_put se_X10_put ml_RX3_28 dX3_putSum_76 rfl h28 h29 (Nat.le_of_ble_eq_true rfl) rfl ?_
  rintro r K1 H30 ⟨rfl, rfl, h⟩ -
  show Fr mX3_putSum (d + 1) 0 0 none 79 [(3, (1, (max 1 x6))), (0, (2, v0)), (1, (2, v1)), (2, (2, v2))] [] _ H30 _
  refine r_aload_n 1 dX3_putSum_79 rfl rfl ?_
  refine r_getf cls3 4 dX3_putSum_80 (by decide) fl_RX3_25 rfl h7 h8 ?_
  refine r_aload_n 1 dX3_putSum_83 rfl rfl ?_
  refine r_getf cls3 2 dX3_putSum_84 (by decide) fl_RX3_19 rfl h7 h8 ?_
  refine r_aload_n 1 dX3_putSum_87 rfl rfl ?_
  refine r_getf cls3 3 dX3_putSum_88 (by decide) fl_RX3_22 rfl h7 h8 ?_
  obtain ⟨h32, h⟩ := h
  obtain ⟨h33, h⟩ := h
  refine r_invV (M := mX3_putSum) (As := [(2, (H30 (v0 : Int).toNat 2)), (2, (H30 (v0 : Int).toNat 3))]) (st := []) (X := (H30 (v0 : Int).toNat 4)) (mc := 0) (ms := 0) (fc := 0) (fs := 0) h ok_X10_product cls10 im_X10_product se_X10_product ml_RX3_54 dX3_putSum_91 rfl h32 h33 (Nat.le_of_ble_eq_true rfl) rfl ?_
  rintro r K1 H34 ⟨rfl, rfl, h⟩ -
  show Fr mX3_putSum (d + 1) 0 0 none 94 [(3, (1, (max 1 x6))), (0, (2, v0)), (1, (2, v1)), (2, (2, v2))] [] _ H34 _
  refine r_aload_n 1 dX3_putSum_94 rfl rfl ?_
  refine r_getf cls3 0 dX3_putSum_95 (by decide) fl_RX3_10 rfl h7 h8 ?_
  refine r_aload_n 1 dX3_putSum_98 rfl rfl ?_
  refine r_getf cls3 4 dX3_putSum_99 (by decide) fl_RX3_25 rfl h7 h8 ?_
  obtain ⟨h36, h⟩ := h
  obtain ⟨h37, h⟩ := h
  refine r_invV (M := mX3_putSum) (As := [(2, (H34 (v0 : Int).toNat 4))]) (st := []) (X := (H34 (v0 : Int).toNat 0)) (mc := 0) (ms := 0) (fc := 0) (fs := 0) h ok_X10_plus cls10 im_X10_plus se_X10_plus ml_RX3_58 dX3_putSum_102 rfl h36 h37 (Nat.le_of_ble_eq_true rfl) rfl ?_
  rintro r K1 H38 ⟨rfl, rfl, h⟩ -
  show Fr mX3_putSum (d + 1) 0 0 none 105 [(3, (1, (max 1 x6))), (0, (2, v0)), (1, (2, v1)), (2, (2, v2))] [] _ H38 _
  refine r_lconst1 dX3_putSum_105 ?_
  refine r_lload_n 0 dX3_putSum_106 rfl rfl ?_
  refine r_aload_n 1 dX3_putSum_107 rfl rfl ?_
  refine r_getf cls3 0 dX3_putSum_108 (by decide) fl_RX3_10 rfl h7 h8 ?_
  refine r_lload_n 0 dX3_putSum_111 rfl rfl ?_
  obtain ⟨h40, h⟩ := h
  obtain ⟨h41, h⟩ := h
  refine r_invV (M := mX3_putSum) (As := [(1, (max 1 x6))]) (st := [(1, (max 1 x6)), (1, 1)]) (X := (H38 (v0 : Int).toNat 0)) (mc := 0) (ms := 0) (fc := 0) (fs := 0) h ok_X10_restBy cls10 im_X10_restBy se_X10_restBy ml_RX3_61 dX3_putSum_112 rfl h40 h41 (Nat.le_of_ble_eq_true rfl) rfl ?_
  rintro r K1 H42 ⟨rfl, x43, rfl, h⟩ -
  show Fr mX3_putSum (d + 1) 0 0 none 115 [(3, (1, (max 1 x6))), (0, (2, v0)), (1, (2, v1)), (2, (2, v2))] [(1, x43), (1, (max 1 x6)), (1, 1)] _ H42 _
  refine r_invSN (M := mX3_putSum) (As := [(1, (max 1 x6)), (1, x43)]) (st := [(1, 1)]) (mc := 0) (ms := 0) (fc := 0) (fs := 0) h ok_X11_commonDivisor sm_X11_commonDivisor mn_RX3_41 dX3_putSum_115 rfl (Nat.le_of_ble_eq_true rfl) rfl ?_
  rintro r K1 H44 ⟨rfl, x45, rfl, h⟩ -
  show Fr mX3_putSum (d + 1) 0 0 none 118 [(3, (1, (max 1 x6))), (0, (2, v0)), (1, (2, v1)), (2, (2, v2))] [(1, x45), (1, 1)] _ H44 _
  refine r_maxl dX3_putSum_118 ml_RX3_47 (Nat.le_of_ble_eq_true rfl) ?_
  refine r_lstore dX3_putSum_121 (by decide) rfl ?_
  refine r_aload_n 2 dX3_putSum_123 rfl rfl ?_
  refine r_getf cls3 0 dX3_putSum_124 (by decide) fl_RX3_10 rfl h7 h8 ?_
  refine r_lload 0 dX3_putSum_127 rfl ?_
  obtain ⟨h46, h⟩ := h
  obtain ⟨h47, h⟩ := h
  refine r_invV (M := mX3_putSum) (As := [(1, (max 1 x45))]) (st := []) (X := (H44 (v0 : Int).toNat 0)) (mc := 0) (ms := 0) (fc := 0) (fs := 0) h ok_X10_divide cls10 im_X10_divide se_X10_divide ml_RX3_65 dX3_putSum_129 rfl h46 h47 (Nat.le_of_ble_eq_true rfl) rfl ?_
  rintro r K1 H48 ⟨rfl, rfl, h⟩ -
  show Fr mX3_putSum (d + 1) 0 0 none 132 [(5, (1, (max 1 x45))), (3, (1, (max 1 x6))), (0, (2, v0)), (1, (2, v1)), (2, (2, v2))] [] _ H48 _
  refine r_aload_n 2 dX3_putSum_132 rfl rfl ?_
  refine r_getf cls3 2 dX3_putSum_133 (by decide) fl_RX3_19 rfl h7 h8 ?_
  refine r_aload_n 3 dX3_putSum_136 rfl rfl ?_
  refine r_getf cls5 1 dX3_putSum_137 (by decide) fl_RX3_36 rfl h1 h2 ?_
  refine r_lload_n 1 dX3_putSum_140 rfl rfl ?_
  obtain ⟨h50, h⟩ := h
  refine r_ldiv dX3_putSum_141 h13 h50 ?_
  obtain ⟨h51, h⟩ := h
  obtain ⟨h52, h⟩ := h
  refine r_invV (M := mX3_putSum) (As := [(1, (Int.tdiv (H48 (v1 : Int).toNat 1) (max 1 x6)))]) (st := []) (X := (H48 (v0 : Int).toNat 2)) (mc := 0) (ms := 0) (fc := 0) (fs := 0) h ok_X10_put cls10 im_X10_put se_X10_put ml_RX3_28 dX3_putSum_142 rfl h51 h52 (Nat.le_of_ble_eq_true rfl) rfl ?_
  rintro r K1 H53 ⟨rfl, rfl, h⟩ -
  show Fr mX3_putSum (d + 1) 0 0 none 145 [(5, (1, (max 1 x45))), (3, (1, (max 1 x6))), (0, (2, v0)), (1, (2, v1)), (2, (2, v2))] [] _ H53 _
  refine r_aload_n 2 dX3_putSum_145 rfl rfl ?_
  refine r_getf cls3 3 dX3_putSum_146 (by decide) fl_RX3_22 rfl h7 h8 ?_
  refine r_aload_n 4 dX3_putSum_149 rfl rfl ?_
  refine r_getf cls5 1 dX3_putSum_150 (by decide) fl_RX3_36 rfl h3 h4 ?_
  refine r_lload 0 dX3_putSum_153 rfl ?_
  obtain ⟨h55, h⟩ := h
  obtain ⟨h56, h⟩ := h
  refine r_ldiv dX3_putSum_155 h55 h56 ?_
  obtain ⟨h57, h⟩ := h
  obtain ⟨h58, h⟩ := h
  refine r_invV (M := mX3_putSum) (As := [(1, (Int.tdiv (H53 (v2 : Int).toNat 1) (max 1 x45)))]) (st := []) (X := (H53 (v0 : Int).toNat 3)) (mc := 0) (ms := 0) (fc := 0) (fs := 0) h ok_X10_put cls10 im_X10_put se_X10_put ml_RX3_28 dX3_putSum_156 rfl h57 h58 (Nat.le_of_ble_eq_true rfl) rfl ?_
  rintro r K1 H59 ⟨rfl, rfl, h⟩ -
  show Fr mX3_putSum (d + 1) 0 0 none 159 [(5, (1, (max 1 x45))), (3, (1, (max 1 x6))), (0, (2, v0)), (1, (2, v1)), (2, (2, v2))] [] _ H59 _
  refine r_aload_n 2 dX3_putSum_159 rfl rfl ?_
  refine r_getf cls3 1 dX3_putSum_160 (by decide) fl_RX3_16 rfl h7 h8 ?_
  refine r_aload_n 2 dX3_putSum_163 rfl rfl ?_
  refine r_getf cls3 2 dX3_putSum_164 (by decide) fl_RX3_19 rfl h7 h8 ?_
  refine r_aload_n 2 dX3_putSum_167 rfl rfl ?_
  refine r_getf cls3 3 dX3_putSum_168 (by decide) fl_RX3_22 rfl h7 h8 ?_
  obtain ⟨h61, h⟩ := h
  obtain ⟨h62, h⟩ := h
  refine r_invV (M := mX3_putSum) (As := [(2, (H59 (v0 : Int).toNat 2)), (2, (H59 (v0 : Int).toNat 3))]) (st := []) (X := (H59 (v0 : Int).toNat 1)) (mc := 0) (ms := 0) (fc := 0) (fs := 0) h ok_X10_product cls10 im_X10_product se_X10_product ml_RX3_54 dX3_putSum_171 rfl h61 h62 (Nat.le_of_ble_eq_true rfl) rfl ?_
  rintro r K1 H63 ⟨rfl, rfl, h⟩ -
  show Fr mX3_putSum (d + 1) 0 0 none 174 [(5, (1, (max 1 x45))), (3, (1, (max 1 x6))), (0, (2, v0)), (1, (2, v1)), (2, (2, v2))] [] _ H63 _
  exact r_vret dX3_putSum_174 rfl ⟨rfl, rfl, h⟩
set_option maxHeartbeats 4000000 in
set_option maxRecDepth 20000 in
theorem eX3_putSum {d : Nat} {K : Shp} {H : Mem} {q : Mem → Prop} {v0 v1 v2 : Int} (h : Rng K H → FX3_putSum_0 d K H q v0 v1 v2) : Cv mX3_putSum (d + 1) [(2, v0), (2, v1), (2, v2)] K H q := Call.of rfl (Nat.le_of_ble_eq_true rfl) (fun o r => h  r)
def FX3_divide_0 (d : Nat) (K : Shp) (H : Mem) (q : Mem → Prop) (v0 : Int) (v1 : Int) : Prop := Fr mX3_divide (d + 1) 0 0 none 0 [(0, (2, v0)), (1, (1, v1))] [] K H (qv K q)
set_option maxHeartbeats 4000000 in
set_option maxRecDepth 20000 in
theorem bX3_divide_0 {d : Nat} {K : Shp} {H : Mem} {q : Mem → Prop} {v0 v1 : Int} (h : ((0 : Int) ≤ v0) ∧ (K[(v0 : Int).toNat]? = some (3, 5)) ∧ ((0 : Int) ≤ (H (v0 : Int).toNat 0)) ∧ (K[((H (v0 : Int).toNat 0) : Int).toNat]? = some (10, 1)) ∧ Cl mX10_restBy d [(2, (H (v0 : Int).toNat 0)), (1, v1)] K H (fun x6 H5 => Cl mX11_commonDivisor d [(1, v1), (1, x6)] K H5 (fun x8 H7 => ((0 : Int) ≤ (H7 (v0 : Int).toNat 0)) ∧ (K[((H7 (v0 : Int).toNat 0) : Int).toNat]? = some (10, 1)) ∧ Cv mX10_divide d [(2, (H7 (v0 : Int).toNat 0)), (1, (max 1 x8))] K H7 (fun H11 => (((max 1 x8) : Int) ≠ 0) ∧ (inL (Int.tdiv v1 (max 1 x8))) ∧ ((0 : Int) ≤ (H11 (v0 : Int).toNat 2)) ∧ (K[((H11 (v0 : Int).toNat 2) : Int).toNat]? = some (10, 1)) ∧ Cv mX10_put d [(2, (H11 (v0 : Int).toNat 2)), (1, (Int.tdiv v1 (max 1 x8)))] K H11 (fun H17 => ((0 : Int) ≤ (H17 (v0 : Int).toNat 3)) ∧ (K[((H17 (v0 : Int).toNat 3) : Int).toNat]? = some (10, 1)) ∧ Cv mX10_copy d [(2, (H17 (v0 : Int).toNat 3)), (2, (H17 (v0 : Int).toNat 1))] K H17 (fun H21 => ((0 : Int) ≤ (H21 (v0 : Int).toNat 1)) ∧ (K[((H21 (v0 : Int).toNat 1) : Int).toNat]? = some (10, 1)) ∧ Cv mX10_product d [(2, (H21 (v0 : Int).toNat 1)), (2, (H21 (v0 : Int).toNat 2)), (2, (H21 (v0 : Int).toNat 3))] K H21 (fun H25 => q H25))))))) : FX3_divide_0 d K H q (v0) (v1) := by
  unfold FX3_divide_0
  refine r_lconst1 dX3_divide_0 ?_
  refine r_lload_n 1 dX3_divide_1 rfl rfl ?_
  refine r_aload_n 0 dX3_divide_2 rfl rfl ?_
  obtain ⟨h1, h⟩ := h
  obtain ⟨h2, h⟩ := h
  refine r_getf cls3 0 dX3_divide_3 (by decide) fl_RX3_10 rfl h1 h2 ?_
  refine r_lload_n 1 dX3_divide_6 rfl rfl ?_
  obtain ⟨h3, h⟩ := h
  obtain ⟨h4, h⟩ := h
  refine r_invV (M := mX3_divide) (As := [(1, v1)]) (st := [(1, v1), (1, 1)]) (X := (H (v0 : Int).toNat 0)) (mc := 0) (ms := 0) (fc := 0) (fs := 0) h ok_X10_restBy cls10 im_X10_restBy se_X10_restBy ml_RX3_61 dX3_divide_7 rfl h3 h4 (Nat.le_of_ble_eq_true rfl) rfl ?_
  rintro r K1 H5 ⟨rfl, x6, rfl, h⟩ -
  show Fr mX3_divide (d + 1) 0 0 none 10 [(0, (2, v0)), (1, (1, v1))] [(1, x6), (1, v1), (1, 1)] _ H5 _
  refine r_invSN (M := mX3_divide) (As := [(1, v1), (1, x6)]) (st := [(1, 1)]) (mc := 0) (ms := 0) (fc := 0) (fs := 0) h ok_X11_commonDivisor sm_X11_commonDivisor mn_RX3_41 dX3_divide_10 rfl (Nat.le_of_ble_eq_true rfl) rfl ?_
  rintro r K1 H7 ⟨rfl, x8, rfl, h⟩ -
  show Fr mX3_divide (d + 1) 0 0 none 13 [(0, (2, v0)), (1, (1, v1))] [(1, x8), (1, 1)] _ H7 _
  refine r_maxl dX3_divide_13 ml_RX3_47 (Nat.le_of_ble_eq_true rfl) ?_
  refine r_lstore_n dX3_divide_16 rfl (by decide) rfl ?_
  refine r_aload_n 1 dX3_divide_17 rfl rfl ?_
  refine r_getf cls3 0 dX3_divide_18 (by decide) fl_RX3_10 rfl h1 h2 ?_
  refine r_lload_n 0 dX3_divide_21 rfl rfl ?_
  obtain ⟨h9, h⟩ := h
  obtain ⟨h10, h⟩ := h
  refine r_invV (M := mX3_divide) (As := [(1, (max 1 x8))]) (st := []) (X := (H7 (v0 : Int).toNat 0)) (mc := 0) (ms := 0) (fc := 0) (fs := 0) h ok_X10_divide cls10 im_X10_divide se_X10_divide ml_RX3_65 dX3_divide_22 rfl h9 h10 (Nat.le_of_ble_eq_true rfl) rfl ?_
  rintro r K1 H11 ⟨rfl, rfl, h⟩ -
  show Fr mX3_divide (d + 1) 0 0 none 25 [(3, (1, (max 1 x8))), (0, (2, v0)), (1, (1, v1))] [] _ H11 _
  refine r_aload_n 1 dX3_divide_25 rfl rfl ?_
  refine r_getf cls3 2 dX3_divide_26 (by decide) fl_RX3_19 rfl h1 h2 ?_
  refine r_lload_n 2 dX3_divide_29 rfl rfl ?_
  refine r_lload_n 0 dX3_divide_30 rfl rfl ?_
  obtain ⟨h13, h⟩ := h
  obtain ⟨h14, h⟩ := h
  refine r_ldiv dX3_divide_31 h13 h14 ?_
  obtain ⟨h15, h⟩ := h
  obtain ⟨h16, h⟩ := h
  refine r_invV (M := mX3_divide) (As := [(1, (Int.tdiv v1 (max 1 x8)))]) (st := []) (X := (H11 (v0 : Int).toNat 2)) (mc := 0) (ms := 0) (fc := 0) (fs := 0) h ok_X10_put cls10 im_X10_put se_X10_put ml_RX3_28 dX3_divide_32 rfl h15 h16 (Nat.le_of_ble_eq_true rfl) rfl ?_
  rintro r K1 H17 ⟨rfl, rfl, h⟩ -
  show Fr mX3_divide (d + 1) 0 0 none 35 [(3, (1, (max 1 x8))), (0, (2, v0)), (1, (1, v1))] [] _ H17 _
  refine r_aload_n 1 dX3_divide_35 rfl rfl ?_
  refine r_getf cls3 3 dX3_divide_36 (by decide) fl_RX3_22 rfl h1 h2 ?_
  refine r_aload_n 1 dX3_divide_39 rfl rfl ?_
  refine r_getf cls3 1 dX3_divide_40 (by decide) fl_RX3_16 rfl h1 h2 ?_
  obtain ⟨h19, h⟩ := h
  obtain ⟨h20, h⟩ := h
  refine r_invV (M := mX3_divide) (As := [(2, (H17 (v0 : Int).toNat 1))]) (st := []) (X := (H17 (v0 : Int).toNat 3)) (mc := 0) (ms := 0) (fc := 0) (fs := 0) h ok_X10_copy cls10 im_X10_copy se_X10_copy ml_RX3_32 dX3_divide_43 rfl h19 h20 (Nat.le_of_ble_eq_true rfl) rfl ?_
  rintro r K1 H21 ⟨rfl, rfl, h⟩ -
  show Fr mX3_divide (d + 1) 0 0 none 46 [(3, (1, (max 1 x8))), (0, (2, v0)), (1, (1, v1))] [] _ H21 _
  refine r_aload_n 1 dX3_divide_46 rfl rfl ?_
  refine r_getf cls3 1 dX3_divide_47 (by decide) fl_RX3_16 rfl h1 h2 ?_
  refine r_aload_n 1 dX3_divide_50 rfl rfl ?_
  refine r_getf cls3 2 dX3_divide_51 (by decide) fl_RX3_19 rfl h1 h2 ?_
  refine r_aload_n 1 dX3_divide_54 rfl rfl ?_
  refine r_getf cls3 3 dX3_divide_55 (by decide) fl_RX3_22 rfl h1 h2 ?_
  obtain ⟨h23, h⟩ := h
  obtain ⟨h24, h⟩ := h
  refine r_invV (M := mX3_divide) (As := [(2, (H21 (v0 : Int).toNat 2)), (2, (H21 (v0 : Int).toNat 3))]) (st := []) (X := (H21 (v0 : Int).toNat 1)) (mc := 0) (ms := 0) (fc := 0) (fs := 0) h ok_X10_product cls10 im_X10_product se_X10_product ml_RX3_54 dX3_divide_58 rfl h23 h24 (Nat.le_of_ble_eq_true rfl) rfl ?_
  rintro r K1 H25 ⟨rfl, rfl, h⟩ -
  show Fr mX3_divide (d + 1) 0 0 none 61 [(3, (1, (max 1 x8))), (0, (2, v0)), (1, (1, v1))] [] _ H25 _
  exact r_vret dX3_divide_61 rfl ⟨rfl, rfl, h⟩
set_option maxHeartbeats 4000000 in
set_option maxRecDepth 20000 in
theorem eX3_divide {d : Nat} {K : Shp} {H : Mem} {q : Mem → Prop} {v0 v1 : Int} (h : inL v1 → Rng K H → FX3_divide_0 d K H q v0 v1) : Cv mX3_divide (d + 1) [(2, v0), (1, v1)] K H q := Call.of rfl (Nat.le_of_ble_eq_true rfl) (fun o r => h (o (1, v1) (by simp)) r)
def FX3_isUnder_0 (d : Nat) (K : Shp) (H : Mem) (q : Int → Mem → Prop) (v0 : Int) (v1 : Int) : Prop := Fr mX3_isUnder (d + 1) 0 0 none 0 [(0, (2, v0)), (1, (2, v1))] [] K H (qi K q)
set_option maxHeartbeats 4000000 in
set_option maxRecDepth 20000 in
theorem bX3_isUnder_0 {d : Nat} {K : Shp} {H : Mem} {q : Int → Mem → Prop} {v0 v1 : Int} (h : ((0 : Int) ≤ v0) ∧ (K[(v0 : Int).toNat]? = some (3, 5)) ∧ ((0 : Int) ≤ v1) ∧ (K[(v1 : Int).toNat]? = some (3, 5)) ∧ ((0 : Int) ≤ (H (v0 : Int).toNat 2)) ∧ (K[((H (v0 : Int).toNat 2) : Int).toNat]? = some (10, 1)) ∧ Cv mX10_product d [(2, (H (v0 : Int).toNat 2)), (2, (H (v0 : Int).toNat 0)), (2, (H (v1 : Int).toNat 1))] K H (fun H7 => ((0 : Int) ≤ (H7 (v0 : Int).toNat 3)) ∧ (K[((H7 (v0 : Int).toNat 3) : Int).toNat]? = some (10, 1)) ∧ Cv mX10_product d [(2, (H7 (v0 : Int).toNat 3)), (2, (H7 (v1 : Int).toNat 0)), (2, (H7 (v0 : Int).toNat 1))] K H7 (fun H11 => ((0 : Int) ≤ (H11 (v0 : Int).toNat 2)) ∧ (K[((H11 (v0 : Int).toNat 2) : Int).toNat]? = some (10, 1)) ∧ Ci mX10_isUnder d [(2, (H11 (v0 : Int).toNat 2)), (2, (H11 (v0 : Int).toNat 3))] K H11 (fun x16 H15 => ((x16 : Int) = 0 ∨ (x16 : Int) = 1) ∧ q x16 H15)))) : FX3_isUnder_0 d K H q (v0) (v1) := by
  unfold FX3_isUnder_0
  refine r_aload_n 0 dX3_isUnder_0 rfl rfl ?_
  obtain ⟨h1, h⟩ := h
  obtain ⟨h2, h⟩ := h
  refine r_getf cls3 2 dX3_isUnder_1 (by decide) fl_RX3_19 rfl h1 h2 ?_
  refine r_aload_n 0 dX3_isUnder_4 rfl rfl ?_
  refine r_getf cls3 0 dX3_isUnder_5 (by decide) fl_RX3_10 rfl h1 h2 ?_
  refine r_aload_n 1 dX3_isUnder_8 rfl rfl ?_
  obtain ⟨h3, h⟩ := h
  obtain ⟨h4, h⟩ := h
  refine r_getf cls3 1 dX3_isUnder_9 (by decide) fl_RX3_16 rfl h3 h4 ?_
  obtain ⟨h5, h⟩ := h
  obtain ⟨h6, h⟩ := h
  refine r_invV (M := mX3_isUnder) (As := [(2, (H (v0 : Int).toNat 0)), (2, (H (v1 : Int).toNat 1))]) (st := []) (X := (H (v0 : Int).toNat 2)) (mc := 0) (ms := 0) (fc := 0) (fs := 0) h ok_X10_product cls10 im_X10_product se_X10_product ml_RX3_54 dX3_isUnder_12 rfl h5 h6 (Nat.le_of_ble_eq_true rfl) rfl ?_
  rintro r K1 H7 ⟨rfl, rfl, h⟩ -
  show Fr mX3_isUnder (d + 1) 0 0 none 15 [(0, (2, v0)), (1, (2, v1))] [] _ H7 _
  refine r_aload_n 0 dX3_isUnder_15 rfl rfl ?_
  refine r_getf cls3 3 dX3_isUnder_16 (by decide) fl_RX3_22 rfl h1 h2 ?_
  refine r_aload_n 1 dX3_isUnder_19 rfl rfl ?_
  refine r_getf cls3 0 dX3_isUnder_20 (by decide) fl_RX3_10 rfl h3 h4 ?_
  refine r_aload_n 0 dX3_isUnder_23 rfl rfl ?_
  refine r_getf cls3 1 dX3_isUnder_24 (by decide) fl_RX3_16 rfl h1 h2 ?_
  obtain ⟨h9, h⟩ := h
  obtain ⟨h10, h⟩ := h
  refine r_invV (M := mX3_isUnder) (As := [(2, (H7 (v1 : Int).toNat 0)), (2, (H7 (v0 : Int).toNat 1))]) (st := []) (X := (H7 (v0 : Int).toNat 3)) (mc := 0) (ms := 0) (fc := 0) (fs := 0) h ok_X10_product cls10 im_X10_product se_X10_product ml_RX3_54 dX3_isUnder_27 rfl h9 h10 (Nat.le_of_ble_eq_true rfl) rfl ?_
  rintro r K1 H11 ⟨rfl, rfl, h⟩ -
  show Fr mX3_isUnder (d + 1) 0 0 none 30 [(0, (2, v0)), (1, (2, v1))] [] _ H11 _
  refine r_aload_n 0 dX3_isUnder_30 rfl rfl ?_
  refine r_getf cls3 2 dX3_isUnder_31 (by decide) fl_RX3_19 rfl h1 h2 ?_
  refine r_aload_n 0 dX3_isUnder_34 rfl rfl ?_
  refine r_getf cls3 3 dX3_isUnder_35 (by decide) fl_RX3_22 rfl h1 h2 ?_
  obtain ⟨h13, h⟩ := h
  obtain ⟨h14, h⟩ := h
  refine r_invV (M := mX3_isUnder) (As := [(2, (H11 (v0 : Int).toNat 3))]) (st := []) (X := (H11 (v0 : Int).toNat 2)) (mc := 0) (ms := 0) (fc := 0) (fs := 0) h ok_X10_isUnder cls10 im_X10_isUnder se_X10_isUnder ml_RX3_68 dX3_isUnder_38 rfl h13 h14 (Nat.le_of_ble_eq_true rfl) rfl ?_
  rintro r K1 H15 ⟨rfl, x16, rfl, h⟩ -
  show Fr mX3_isUnder (d + 1) 0 0 none 41 [(0, (2, v0)), (1, (2, v1))] [(0, x16)] _ H15 _
  obtain ⟨h17, h⟩ := h
  exact r_zret dX3_isUnder_41 rfl h17 ⟨rfl, _, rfl, h⟩
set_option maxHeartbeats 4000000 in
set_option maxRecDepth 20000 in
theorem eX3_isUnder {d : Nat} {K : Shp} {H : Mem} {q : Int → Mem → Prop} {v0 v1 : Int} (h : Rng K H → FX3_isUnder_0 d K H q v0 v1) : Ci mX3_isUnder (d + 1) [(2, v0), (2, v1)] K H q := Call.of rfl (Nat.le_of_ble_eq_true rfl) (fun o r => h  r)
