/-! printed by gen/emit.py: what a walk from each cut point asks -/
def FX10_put_0 (d : Nat) (K : Shp) (H : Mem) (q : Mem → Prop) (v0 : Int) (v1 : Int) : Prop := Fr mX10_put d 0 0 none 0 [(0, (2, v0)), (1, (1, v1))] [] K H (qv K q)
def FX10_put_5 (d : Nat) (K : Shp) (H : Mem) (q : Mem → Prop) (v0 : Int) (v3 : Int) (v5 : Int) : Prop := Fr mX10_put d 0 0 none 5 [(0, (2, v0)), (3, (1, v3)), (5, (0, v5))] [] K H (qv K q)
set_option maxHeartbeats 4000000 in
set_option maxRecDepth 20000 in
theorem bX10_put_0 {d : Nat} {K : Shp} {H : Mem} {q : Mem → Prop} {v0 v1 : Int} (h : FX10_put_5 d K H q (v0) (v1) (0)) : FX10_put_0 d K H q (v0) (v1) := by
  unfold FX10_put_0
  refine r_lload_n 1 dX10_put_0 rfl rfl ?_
  refine r_lstore_n dX10_put_1 rfl (by decide) rfl ?_
  refine r_iconst dX10_put_2 (by decide) (by decide) ?_
  refine r_istore dX10_put_3 (by decide) rfl ?_
  refine Fr.fewer [2, 1, 0] rfl ?_
  exact h
set_option maxHeartbeats 4000000 in
set_option maxRecDepth 20000 in
theorem bX10_put_5 {d : Nat} {K : Shp} {H : Mem} {q : Mem → Prop} {v0 v3 v5 : Int} (h : ((¬ (v5 : Int) < 6 → q H) ∧ ((v5 : Int) < 6 → ((0 : Int) ≤ v0) ∧ (K[(v0 : Int).toNat]? = some (10, 1)) ∧ (inL (Int.tmod v3 1000000000)) ∧ ((0 : Int) ≤ (H (v0 : Int).toNat 0)) ∧ ∃ n6 : Nat, (K[((H (v0 : Int).toNat 0) : Int).toNat]? = some (21, n6)) ∧ ((0 : Int) ≤ v5) ∧ ((v5 : Int) < n6) ∧ ∀ H10 : Mem, H10 = upA H ((H (v0 : Int).toNat 0) : Int).toNat (up1 (H ((H (v0 : Int).toNat 0) : Int).toNat) (v5 : Int).toNat (Int.tmod v3 1000000000)) → (inL (Int.tdiv v3 1000000000)) ∧ (inI (v5 + 1)) ∧ FX10_put_5 d K H10 q (v0) ((Int.tdiv v3 1000000000)) ((v5 + 1))))) : FX10_put_5 d K H q (v0) (v3) (v5) := by
  unfold FX10_put_5
  refine r_iload 2 dX10_put_5 rfl ?_
  refine r_bipush dX10_put_7 (by decide) (by decide) ?_
  refine r_icmp_ge (tgt := 36) dX10_put_9 (by decide) (fun c1 => ?_) (fun c1 => ?_)
  · replace h := h.1 c1
    exact r_vret dX10_put_36 rfl ⟨rfl, rfl, h⟩
  · replace h := h.2 c1
    refine r_aload_n 0 dX10_put_12 rfl rfl ?_
    obtain ⟨h2, h⟩ := h
    obtain ⟨h3, h⟩ := h
    refine r_getf cls10 0 dX10_put_13 (by decide) fl_RX10_9 rfl h2 h3 ?_
    refine r_iload 2 dX10_put_16 rfl ?_
    refine r_lload_n 1 dX10_put_18 rfl rfl ?_
    refine r_ldc2 (x := 1000000000) dX10_put_19 kl_RX10_13 (by decide) (by decide) ?_
    obtain ⟨h4, h⟩ := h
    refine r_lrem dX10_put_22 (by decide) h4 ?_
    obtain ⟨h5, h⟩ := h
    obtain ⟨n6, h⟩ := h
    obtain ⟨h7, h⟩ := h
    obtain ⟨h8, h⟩ := h
    obtain ⟨h9, h⟩ := h
    refine r_last n6 dX10_put_23 h5 h7 h8 h9 ?_
    replace h := h _ rfl
    generalize upA H ((H (v0 : Int).toNat 0) : Int).toNat (up1 (H ((H (v0 : Int).toNat 0) : Int).toNat) (v5 : Int).toNat (Int.tmod v3 1000000000)) = H10 at h ⊢
    refine r_lload_n 1 dX10_put_24 rfl rfl ?_
    refine r_ldc2 (x := 1000000000) dX10_put_25 kl_RX10_13 (by decide) (by decide) ?_
    obtain ⟨h11, h⟩ := h
    refine r_ldiv dX10_put_28 (by decide) h11 ?_
    refine r_lstore_n dX10_put_29 rfl (by decide) rfl ?_
    obtain ⟨h12, h⟩ := h
    refine r_iinc 2 dX10_put_30 (by decide) rfl h12 rfl ?_
    refine r_goto (tgt := 5) dX10_put_33 (by decide) ?_
    refine Fr.fewer [2, 1, 0] rfl ?_
    exact h
set_option maxHeartbeats 4000000 in
set_option maxRecDepth 20000 in
theorem eX10_put {d : Nat} {K : Shp} {H : Mem} {q : Mem → Prop} {v0 v1 : Int} (h : inL v1 → Rng K H → FX10_put_0 d K H q v0 v1) : Cv mX10_put d [(2, v0), (1, v1)] K H q := Call.of rfl (Nat.le_of_ble_eq_true rfl) (fun o r => h (o (1, v1) (by simp)) r)
def FX10_copy_0 (d : Nat) (K : Shp) (H : Mem) (q : Mem → Prop) (v0 : Int) (v1 : Int) : Prop := Fr mX10_copy (d + 1) 0 0 none 0 [(0, (2, v0)), (1, (2, v1))] [] K H (qv K q)
set_option maxHeartbeats 4000000 in
set_option maxRecDepth 20000 in
theorem bX10_copy_0 {d : Nat} {K : Shp} {H : Mem} {q : Mem → Prop} {v0 v1 : Int} (h : ((0 : Int) ≤ v1) ∧ (K[(v1 : Int).toNat]? = some (10, 1)) ∧ ((0 : Int) ≤ v0) ∧ (K[(v0 : Int).toNat]? = some (10, 1)) ∧ ((0 : Int) ≤ (H (v1 : Int).toNat 0)) ∧ ∃ n6 : Nat, (K[((H (v1 : Int).toNat 0) : Int).toNat]? = some (21, n6)) ∧ ((0 : Int) ≤ (H (v0 : Int).toNat 0)) ∧ ∃ n9 : Nat, (K[((H (v0 : Int).toNat 0) : Int).toNat]? = some (21, n9)) ∧ ((0 : Int) + 6 ≤ n6) ∧ ((0 : Int) + 6 ≤ n9) ∧ ∀ H13 : Mem, H13 = upA H ((H (v0 : Int).toNat 0) : Int).toNat (va_cpy (H ((H (v1 : Int).toNat 0) : Int).toNat) (H ((H (v0 : Int).toNat 0) : Int).toNat) (0 : Int).toNat (0 : Int).toNat (6 : Int).toNat) → q H13) : FX10_copy_0 d K H q (v0) (v1) := by
  unfold FX10_copy_0
  refine r_aload_n 1 dX10_copy_0 rfl rfl ?_
  obtain ⟨h1, h⟩ := h
  obtain ⟨h2, h⟩ := h
  refine r_getf cls10 0 dX10_copy_1 (by decide) fl_RX10_9 rfl h1 h2 ?_
  refine r_iconst dX10_copy_4 (by decide) (by decide) ?_
  refine r_aload_n 0 dX10_copy_5 rfl rfl ?_
  obtain ⟨h3, h⟩ := h
  obtain ⟨h4, h⟩ := h
  refine r_getf cls10 0 dX10_copy_6 (by decide) fl_RX10_9 rfl h3 h4 ?_
  refine r_iconst dX10_copy_9 (by decide) (by decide) ?_
  refine r_bipush dX10_copy_10 (by decide) (by decide) ?_
  obtain ⟨h5, h⟩ := h
  obtain ⟨n6, h⟩ := h
  obtain ⟨h7, h⟩ := h
  obtain ⟨h8, h⟩ := h
  obtain ⟨n9, h⟩ := h
  obtain ⟨h10, h⟩ := h
  obtain ⟨h11, h⟩ := h
  obtain ⟨h12, h⟩ := h
  refine r_copyl n6 n9 dX10_copy_12 ml_RX10_15 h5 h7 h8 h10 (by decide) (by decide) (by decide) h11 h12 (Nat.le_of_ble_eq_true rfl) ?_
  replace h := h _ rfl
  generalize upA H ((H (v0 : Int).toNat 0) : Int).toNat (va_cpy (H ((H (v1 : Int).toNat 0) : Int).toNat) (H ((H (v0 : Int).toNat 0) : Int).toNat) (0 : Int).toNat (0 : Int).toNat (6 : Int).toNat) = H13 at h ⊢
  exact r_vret dX10_copy_15 rfl ⟨rfl, rfl, h⟩
set_option maxHeartbeats 4000000 in
set_option maxRecDepth 20000 in
theorem eX10_copy {d : Nat} {K : Shp} {H : Mem} {q : Mem → Prop} {v0 v1 : Int} (h : Rng K H → FX10_copy_0 d K H q v0 v1) : Cv mX10_copy (d + 1) [(2, v0), (2, v1)] K H q := Call.of rfl (Nat.le_of_ble_eq_true rfl) (fun o r => h  r)
def FX10_plus_0 (d : Nat) (K : Shp) (H : Mem) (q : Mem → Prop) (v0 : Int) (v1 : Int) : Prop := Fr mX10_plus d 0 0 none 0 [(0, (2, v0)), (1, (2, v1))] [] K H (qv K q)
def FX10_plus_5 (d : Nat) (K : Shp) (H : Mem) (q : Mem → Prop) (v0 : Int) (v1 : Int) (v2 : Int) (v4 : Int) : Prop := Fr mX10_plus d 0 0 none 5 [(0, (2, v0)), (1, (2, v1)), (2, (1, v2)), (4, (0, v4))] [] K H (qv K q)
set_option maxHeartbeats 4000000 in
set_option maxRecDepth 20000 in
theorem bX10_plus_0 {d : Nat} {K : Shp} {H : Mem} {q : Mem → Prop} {v0 v1 : Int} (h : FX10_plus_5 d K H q (v0) (v1) (0) (0)) : FX10_plus_0 d K H q (v0) (v1) := by
  unfold FX10_plus_0
  refine r_lconst0 dX10_plus_0 ?_
  refine r_lstore_n dX10_plus_1 rfl (by decide) rfl ?_
  refine r_iconst dX10_plus_2 (by decide) (by decide) ?_
  refine r_istore dX10_plus_3 (by decide) rfl ?_
  refine Fr.fewer [2, 3, 1, 0] rfl ?_
  exact h
set_option maxHeartbeats 4000000 in
set_option maxRecDepth 20000 in
theorem bX10_plus_5 {d : Nat} {K : Shp} {H : Mem} {q : Mem → Prop} {v0 v1 v2 v4 : Int} (h : ((¬ (v4 : Int) < 6 → q H) ∧ ((v4 : Int) < 6 → ((0 : Int) ≤ v0) ∧ (K[(v0 : Int).toNat]? = some (10, 1)) ∧ ((0 : Int) ≤ (H (v0 : Int).toNat 0)) ∧ ∃ n5 : Nat, (K[((H (v0 : Int).toNat 0) : Int).toNat]? = some (21, n5)) ∧ ((0 : Int) ≤ v4) ∧ ((v4 : Int) < n5) ∧ ((0 : Int) ≤ v1) ∧ (K[(v1 : Int).toNat]? = some (10, 1)) ∧ ((0 : Int) ≤ (H (v1 : Int).toNat 0)) ∧ ∃ n12 : Nat, (K[((H (v1 : Int).toNat 0) : Int).toNat]? = some (21, n12)) ∧ ((v4 : Int) < n12) ∧ (inL ((H ((H (v0 : Int).toNat 0) : Int).toNat (v4 : Int).toNat) + (H ((H (v1 : Int).toNat 0) : Int).toNat (v4 : Int).toNat))) ∧ (inL (((H ((H (v0 : Int).toNat 0) : Int).toNat (v4 : Int).toNat) + (H ((H (v1 : Int).toNat 0) : Int).toNat (v4 : Int).toNat)) + v2)) ∧ (inL (Int.tmod (((H ((H (v0 : Int).toNat 0) : Int).toNat (v4 : Int).toNat) + (H ((H (v1 : Int).toNat 0) : Int).toNat (v4 : Int).toNat)) + v2) 1000000000)) ∧ ∀ H18 : Mem, H18 = upA H ((H (v0 : Int).toNat 0) : Int).toNat (up1 (H ((H (v0 : Int).toNat 0) : Int).toNat) (v4 : Int).toNat (Int.tmod (((H ((H (v0 : Int).toNat 0) : Int).toNat (v4 : Int).toNat) + (H ((H (v1 : Int).toNat 0) : Int).toNat (v4 : Int).toNat)) + v2) 1000000000)) → (inL (Int.tdiv (((H ((H (v0 : Int).toNat 0) : Int).toNat (v4 : Int).toNat) + (H ((H (v1 : Int).toNat 0) : Int).toNat (v4 : Int).toNat)) + v2) 1000000000)) ∧ (inI (v4 + 1)) ∧ FX10_plus_5 d K H18 q (v0) (v1) ((Int.tdiv (((H ((H (v0 : Int).toNat 0) : Int).toNat (v4 : Int).toNat) + (H ((H (v1 : Int).toNat 0) : Int).toNat (v4 : Int).toNat)) + v2) 1000000000)) ((v4 + 1))))) : FX10_plus_5 d K H q (v0) (v1) (v2) (v4) := by
  unfold FX10_plus_5
  refine r_iload 3 dX10_plus_5 rfl ?_
  refine r_bipush dX10_plus_7 (by decide) (by decide) ?_
  refine r_icmp_ge (tgt := 57) dX10_plus_9 (by decide) (fun c1 => ?_) (fun c1 => ?_)
  · replace h := h.1 c1
    exact r_vret dX10_plus_57 rfl ⟨rfl, rfl, h⟩
  · replace h := h.2 c1
    refine r_aload_n 0 dX10_plus_12 rfl rfl ?_
    obtain ⟨h2, h⟩ := h
    obtain ⟨h3, h⟩ := h
    refine r_getf cls10 0 dX10_plus_13 (by decide) fl_RX10_9 rfl h2 h3 ?_
    refine r_iload 3 dX10_plus_16 rfl ?_
    obtain ⟨h4, h⟩ := h
    obtain ⟨n5, h⟩ := h
    obtain ⟨h6, h⟩ := h
    obtain ⟨h7, h⟩ := h
    obtain ⟨h8, h⟩ := h
    refine r_lald n5 dX10_plus_18 h4 h6 h7 h8 ?_
    refine r_aload_n 1 dX10_plus_19 rfl rfl ?_
    obtain ⟨h9, h⟩ := h
    obtain ⟨h10, h⟩ := h
    refine r_getf cls10 0 dX10_plus_20 (by decide) fl_RX10_9 rfl h9 h10 ?_
    refine r_iload 3 dX10_plus_23 rfl ?_
    obtain ⟨h11, h⟩ := h
    obtain ⟨n12, h⟩ := h
    obtain ⟨h13, h⟩ := h
    obtain ⟨h14, h⟩ := h
    refine r_lald n12 dX10_plus_25 h11 h13 h7 h14 ?_
    obtain ⟨h15, h⟩ := h
    refine r_ladd dX10_plus_26 h15 ?_
    refine r_lload_n 2 dX10_plus_27 rfl rfl ?_
    obtain ⟨h16, h⟩ := h
    refine r_ladd dX10_plus_28 h16 ?_
    refine r_lstore dX10_plus_29 (by decide) rfl ?_
    refine r_aload_n 1 dX10_plus_31 rfl rfl ?_
    refine r_getf cls10 0 dX10_plus_32 (by decide) fl_RX10_9 rfl h2 h3 ?_
    refine r_iload 4 dX10_plus_35 rfl ?_
    refine r_lload 0 dX10_plus_37 rfl ?_
    refine r_ldc2 (x := 1000000000) dX10_plus_39 kl_RX10_13 (by decide) (by decide) ?_
    obtain ⟨h17, h⟩ := h
    refine r_lrem dX10_plus_42 (by decide) h17 ?_
    refine r_last n5 dX10_plus_43 h4 h6 h7 h8 ?_
    replace h := h _ rfl
    generalize upA H ((H (v0 : Int).toNat 0) : Int).toNat (up1 (H ((H (v0 : Int).toNat 0) : Int).toNat) (v4 : Int).toNat (Int.tmod (((H ((H (v0 : Int).toNat 0) : Int).toNat (v4 : Int).toNat) + (H ((H (v1 : Int).toNat 0) : Int).toNat (v4 : Int).toNat)) + v2) 1000000000)) = H18 at h ⊢
    refine r_lload 0 dX10_plus_44 rfl ?_
    refine r_ldc2 (x := 1000000000) dX10_plus_46 kl_RX10_13 (by decide) (by decide) ?_
    obtain ⟨h19, h⟩ := h
    refine r_ldiv dX10_plus_49 (by decide) h19 ?_
    refine r_lstore_n dX10_plus_50 rfl (by decide) rfl ?_
    obtain ⟨h20, h⟩ := h
    refine r_iinc 4 dX10_plus_51 (by decide) rfl h20 rfl ?_
    refine r_goto (tgt := 5) dX10_plus_54 (by decide) ?_
    refine Fr.fewer [3, 4, 1, 0] rfl ?_
    exact h
set_option maxHeartbeats 4000000 in
set_option maxRecDepth 20000 in
theorem eX10_plus {d : Nat} {K : Shp} {H : Mem} {q : Mem → Prop} {v0 v1 : Int} (h : Rng K H → FX10_plus_0 d K H q v0 v1) : Cv mX10_plus d [(2, v0), (2, v1)] K H q := Call.of rfl (Nat.le_of_ble_eq_true rfl) (fun o r => h  r)
def FX10_product_0 (d : Nat) (K : Shp) (H : Mem) (q : Mem → Prop) (v0 : Int) (v1 : Int) (v2 : Int) : Prop := Fr mX10_product (d + 1) 0 0 none 0 [(0, (2, v0)), (1, (2, v1)), (2, (2, v2))] [] K H (qv K q)
def FX10_product_10 (d : Nat) (K : Shp) (H : Mem) (q : Mem → Prop) (v0 : Int) (v1 : Int) (v2 : Int) (v3 : Int) : Prop := Fr mX10_product (d + 1) 0 0 none 10 [(0, (2, v0)), (1, (2, v1)), (2, (2, v2)), (3, (0, v3))] [] K H (qv K q)
def FX10_product_22 (d : Nat) (K : Shp) (H : Mem) (q : Mem → Prop) (v0 : Int) (v1 : Int) (v2 : Int) (v3 : Int) (v4 : Int) (v6 : Int) : Prop := Fr mX10_product (d + 1) 0 0 none 22 [(0, (2, v0)), (1, (2, v1)), (2, (2, v2)), (3, (0, v3)), (4, (1, v4)), (6, (0, v6))] [] K H (qv K q)
set_option maxHeartbeats 4000000 in
set_option maxRecDepth 20000 in
theorem bX10_product_0 {d : Nat} {K : Shp} {H : Mem} {q : Mem → Prop} {v0 v1 v2 : Int} (h : ((0 : Int) ≤ v0) ∧ (K[(v0 : Int).toNat]? = some (10, 1)) ∧ Cv mJ7_fill_d0a16 d [(2, (H (v0 : Int).toNat 0)), (1, 0)] K H (fun H3 => FX10_product_10 d K H3 q (v0) (v1) (v2) (0))) : FX10_product_0 d K H q (v0) (v1) (v2) := by
  unfold FX10_product_0
  refine r_aload_n 0 dX10_product_0 rfl rfl ?_
  obtain ⟨h1, h⟩ := h
  obtain ⟨h2, h⟩ := h
  refine r_getf cls10 0 dX10_product_1 (by decide) fl_RX10_9 rfl h1 h2 ?_
  refine r_lconst0 dX10_product_4 ?_
  refine r_invS (M := mX10_product) (As := [(2, (H (v0 : Int).toNat 0)), (1, 0)]) (st := []) (mc := 0) (ms := 0) (fc := 0) (fs := 0) h ok_J7_fill_d0a16 sm_J7_fill_d0a16 ml_RX10_21 dX10_product_5 rfl (Nat.le_of_ble_eq_true rfl) rfl ?_
  rintro r K1 H3 ⟨rfl, rfl, h⟩ -
  show Fr mX10_product (d + 1) 0 0 none 8 [(0, (2, v0)), (1, (2, v1)), (2, (2, v2))] [] _ H3 _
  refine r_iconst dX10_product_8 (by decide) (by decide) ?_
  refine r_istore_n dX10_product_9 rfl (by decide) rfl ?_
  refine Fr.fewer [1, 2, 3, 0] rfl ?_
  exact h
set_option maxHeartbeats 4000000 in
set_option maxRecDepth 20000 in
theorem bX10_product_10 {d : Nat} {K : Shp} {H : Mem} {q : Mem → Prop} {v0 v1 v2 v3 : Int} (h : ((¬ (v3 : Int) < 6 → q H) ∧ ((v3 : Int) < 6 → FX10_product_22 d K H q (v0) (v1) (v2) (v3) (0) (0)))) : FX10_product_10 d K H q (v0) (v1) (v2) (v3) := by
  unfold FX10_product_10
  refine r_iload_n 3 dX10_product_10 rfl rfl ?_
  refine r_bipush dX10_product_11 (by decide) (by decide) ?_
  refine r_icmp_ge (tgt := 95) dX10_product_13 (by decide) (fun c1 => ?_) (fun c1 => ?_)
  · replace h := h.1 c1
    exact r_vret dX10_product_95 rfl ⟨rfl, rfl, h⟩
  · replace h := h.2 c1
    refine r_lconst0 dX10_product_16 ?_
    refine r_lstore dX10_product_17 (by decide) rfl ?_
    refine r_iconst dX10_product_19 (by decide) (by decide) ?_
    refine r_istore dX10_product_20 (by decide) rfl ?_
    refine Fr.fewer [2, 3, 4, 5, 1, 0] rfl ?_
    exact h
set_option maxHeartbeats 4000000 in
set_option maxRecDepth 20000 in
theorem bX10_product_22 {d : Nat} {K : Shp} {H : Mem} {q : Mem → Prop} {v0 v1 v2 v3 v4 v6 : Int} (h : (inI (v3 + v6)) ∧ ((¬ ((v3 + v6) : Int) < 6 → (inI (v3 + 1)) ∧ FX10_product_10 d K H q (v0) (v1) (v2) ((v3 + 1))) ∧ (((v3 + v6) : Int) < 6 → ((0 : Int) ≤ v0) ∧ (K[(v0 : Int).toNat]? = some (10, 1)) ∧ ((0 : Int) ≤ (H (v0 : Int).toNat 0)) ∧ ∃ n7 : Nat, (K[((H (v0 : Int).toNat 0) : Int).toNat]? = some (21, n7)) ∧ ((0 : Int) ≤ (v3 + v6)) ∧ (((v3 + v6) : Int) < n7) ∧ ((0 : Int) ≤ v1) ∧ (K[(v1 : Int).toNat]? = some (10, 1)) ∧ ((0 : Int) ≤ (H (v1 : Int).toNat 0)) ∧ ∃ n14 : Nat, (K[((H (v1 : Int).toNat 0) : Int).toNat]? = some (21, n14)) ∧ ((0 : Int) ≤ v3) ∧ ((v3 : Int) < n14) ∧ ((0 : Int) ≤ v2) ∧ (K[(v2 : Int).toNat]? = some (10, 1)) ∧ ((0 : Int) ≤ (H (v2 : Int).toNat 0)) ∧ ∃ n21 : Nat, (K[((H (v2 : Int).toNat 0) : Int).toNat]? = some (21, n21)) ∧ ((0 : Int) ≤ v6) ∧ ((v6 : Int) < n21) ∧ (inL ((H ((H (v1 : Int).toNat 0) : Int).toNat (v3 : Int).toNat) * (H ((H (v2 : Int).toNat 0) : Int).toNat (v6 : Int).toNat))) ∧ (inL ((H ((H (v0 : Int).toNat 0) : Int).toNat ((v3 + v6) : Int).toNat) + ((H ((H (v1 : Int).toNat 0) : Int).toNat (v3 : Int).toNat) * (H ((H (v2 : Int).toNat 0) : Int).toNat (v6 : Int).toNat)))) ∧ (inL (((H ((H (v0 : Int).toNat 0) : Int).toNat ((v3 + v6) : Int).toNat) + ((H ((H (v1 : Int).toNat 0) : Int).toNat (v3 : Int).toNat) * (H ((H (v2 : Int).toNat 0) : Int).toNat (v6 : Int).toNat))) + v4)) ∧ (inL (Int.tmod (((H ((H (v0 : Int).toNat 0) : Int).toNat ((v3 + v6) : Int).toNat) + ((H ((H (v1 : Int).toNat 0) : Int).toNat (v3 : Int).toNat) * (H ((H (v2 : Int).toNat 0) : Int).toNat (v6 : Int).toNat))) + v4) 1000000000)) ∧ ∀ H29 : Mem, H29 = upA H ((H (v0 : Int).toNat 0) : Int).toNat (up1 (H ((H (v0 : Int).toNat 0) : Int).toNat) ((v3 + v6) : Int).toNat (Int.tmod (((H ((H (v0 : Int).toNat 0) : Int).toNat ((v3 + v6) : Int).toNat) + ((H ((H (v1 : Int).toNat 0) : Int).toNat (v3 : Int).toNat) * (H ((H (v2 : Int).toNat 0) : Int).toNat (v6 : Int).toNat))) + v4) 1000000000)) → (inL (Int.tdiv (((H ((H (v0 : Int).toNat 0) : Int).toNat ((v3 + v6) : Int).toNat) + ((H ((H (v1 : Int).toNat 0) : Int).toNat (v3 : Int).toNat) * (H ((H (v2 : Int).toNat 0) : Int).toNat (v6 : Int).toNat))) + v4) 1000000000)) ∧ (inI (v6 + 1)) ∧ FX10_product_22 d K H29 q (v0) (v1) (v2) (v3) ((Int.tdiv (((H ((H (v0 : Int).toNat 0) : Int).toNat ((v3 + v6) : Int).toNat) + ((H ((H (v1 : Int).toNat 0) : Int).toNat (v3 : Int).toNat) * (H ((H (v2 : Int).toNat 0) : Int).toNat (v6 : Int).toNat))) + v4) 1000000000)) ((v6 + 1))))) : FX10_product_22 d K H q (v0) (v1) (v2) (v3) (v4) (v6) := by
  unfold FX10_product_22
  refine r_iload_n 3 dX10_product_22 rfl rfl ?_
  refine r_iload 5 dX10_product_23 rfl ?_
  obtain ⟨h1, h⟩ := h
  refine r_iadd dX10_product_25 h1 ?_
  refine r_bipush dX10_product_26 (by decide) (by decide) ?_
  refine r_icmp_ge (tgt := 89) dX10_product_28 (by decide) (fun c2 => ?_) (fun c2 => ?_)
  · replace h := h.1 c2
    obtain ⟨h3, h⟩ := h
    refine r_iinc 3 dX10_product_89 (by decide) rfl h3 rfl ?_
    refine r_goto (tgt := 10) dX10_product_92 (by decide) ?_
    refine Fr.fewer [1, 2, 3, 0] rfl ?_
    exact h
  · replace h := h.2 c2
    refine r_aload_n 0 dX10_product_31 rfl rfl ?_
    obtain ⟨h4, h⟩ := h
    obtain ⟨h5, h⟩ := h
    refine r_getf cls10 0 dX10_product_32 (by decide) fl_RX10_9 rfl h4 h5 ?_
    refine r_iload_n 3 dX10_product_35 rfl rfl ?_
    refine r_iload 5 dX10_product_36 rfl ?_
    refine r_iadd dX10_product_38 h1 ?_
    obtain ⟨h6, h⟩ := h
    obtain ⟨n7, h⟩ := h
    obtain ⟨h8, h⟩ := h
    obtain ⟨h9, h⟩ := h
    obtain ⟨h10, h⟩ := h
    refine r_lald n7 dX10_product_39 h6 h8 h9 h10 ?_
    refine r_aload_n 1 dX10_product_40 rfl rfl ?_
    obtain ⟨h11, h⟩ := h
    obtain ⟨h12, h⟩ := h
    refine r_getf cls10 0 dX10_product_41 (by decide) fl_RX10_9 rfl h11 h12 ?_
    refine r_iload_n 3 dX10_product_44 rfl rfl ?_
    obtain ⟨h13, h⟩ := h
    obtain ⟨n14, h⟩ := h
    obtain ⟨h15, h⟩ := h
    obtain ⟨h16, h⟩ := h
    obtain ⟨h17, h⟩ := h
    refine r_lald n14 dX10_product_45 h13 h15 h16 h17 ?_
    refine r_aload_n 2 dX10_product_46 rfl rfl ?_
    obtain ⟨h18, h⟩ := h
    obtain ⟨h19, h⟩ := h
    refine r_getf cls10 0 dX10_product_47 (by decide) fl_RX10_9 rfl h18 h19 ?_
    refine r_iload 5 dX10_product_50 rfl ?_
    obtain ⟨h20, h⟩ := h
    obtain ⟨n21, h⟩ := h
    obtain ⟨h22, h⟩ := h
    obtain ⟨h23, h⟩ := h
    obtain ⟨h24, h⟩ := h
    refine r_lald n21 dX10_product_52 h20 h22 h23 h24 ?_
    obtain ⟨h25, h⟩ := h
    refine r_lmul dX10_product_53 h25 ?_
    obtain ⟨h26, h⟩ := h
    refine r_ladd dX10_product_54 h26 ?_
    refine r_lload 4 dX10_product_55 rfl ?_
    obtain ⟨h27, h⟩ := h
    refine r_ladd dX10_product_57 h27 ?_
    refine r_lstore dX10_product_58 (by decide) rfl ?_
    refine r_aload_n 1 dX10_product_60 rfl rfl ?_
    refine r_getf cls10 0 dX10_product_61 (by decide) fl_RX10_9 rfl h4 h5 ?_
    refine r_iload_n 4 dX10_product_64 rfl rfl ?_
    refine r_iload 6 dX10_product_65 rfl ?_
    refine r_iadd dX10_product_67 h1 ?_
    refine r_lload 0 dX10_product_68 rfl ?_
    refine r_ldc2 (x := 1000000000) dX10_product_70 kl_RX10_13 (by decide) (by decide) ?_
    obtain ⟨h28, h⟩ := h
    refine r_lrem dX10_product_73 (by decide) h28 ?_
    refine r_last n7 dX10_product_74 h6 h8 h9 h10 ?_
    replace h := h _ rfl
    generalize upA H ((H (v0 : Int).toNat 0) : Int).toNat (up1 (H ((H (v0 : Int).toNat 0) : Int).toNat) ((v3 + v6) : Int).toNat (Int.tmod (((H ((H (v0 : Int).toNat 0) : Int).toNat ((v3 + v6) : Int).toNat) + ((H ((H (v1 : Int).toNat 0) : Int).toNat (v3 : Int).toNat) * (H ((H (v2 : Int).toNat 0) : Int).toNat (v6 : Int).toNat))) + v4) 1000000000)) = H29 at h ⊢
    refine r_lload 0 dX10_product_75 rfl ?_
    refine r_ldc2 (x := 1000000000) dX10_product_77 kl_RX10_13 (by decide) (by decide) ?_
    obtain ⟨h30, h⟩ := h
    refine r_ldiv dX10_product_80 (by decide) h30 ?_
    refine r_lstore dX10_product_81 (by decide) rfl ?_
    obtain ⟨h31, h⟩ := h
    refine r_iinc 6 dX10_product_83 (by decide) rfl h31 rfl ?_
    refine r_goto (tgt := 22) dX10_product_86 (by decide) ?_
    refine Fr.fewer [3, 4, 5, 6, 1, 0] rfl ?_
    exact h
set_option maxHeartbeats 4000000 in
set_option maxRecDepth 20000 in
theorem eX10_product {d : Nat} {K : Shp} {H : Mem} {q : Mem → Prop} {v0 v1 v2 : Int} (h : Rng K H → FX10_product_0 d K H q v0 v1 v2) : Cv mX10_product (d + 1) [(2, v0), (2, v1), (2, v2)] K H q := Call.of rfl (Nat.le_of_ble_eq_true rfl) (fun o r => h  r)
def FX10_restBy_0 (d : Nat) (K : Shp) (H : Mem) (q : Int → Mem → Prop) (v0 : Int) (v1 : Int) : Prop := Fr mX10_restBy d 0 0 none 0 [(0, (2, v0)), (1, (1, v1))] [] K H (ql K q)
def FX10_restBy_5 (d : Nat) (K : Shp) (H : Mem) (q : Int → Mem → Prop) (v0 : Int) (v1 : Int) (v3 : Int) (v5 : Int) : Prop := Fr mX10_restBy d 0 0 none 5 [(0, (2, v0)), (1, (1, v1)), (3, (1, v3)), (5, (0, v5))] [] K H (ql K q)
set_option maxHeartbeats 4000000 in
set_option maxRecDepth 20000 in
theorem bX10_restBy_0 {d : Nat} {K : Shp} {H : Mem} {q : Int → Mem → Prop} {v0 v1 : Int} (h : FX10_restBy_5 d K H q (v0) (v1) (0) (5)) : FX10_restBy_0 d K H q (v0) (v1) := by
  unfold FX10_restBy_0
  refine r_lconst0 dX10_restBy_0 ?_
  refine r_lstore_n dX10_restBy_1 rfl (by decide) rfl ?_
  refine r_iconst dX10_restBy_2 (by decide) (by decide) ?_
  refine r_istore dX10_restBy_3 (by decide) rfl ?_
  refine Fr.fewer [2, 3, 1, 0] rfl ?_
  exact h
set_option maxHeartbeats 4000000 in
set_option maxRecDepth 20000 in
theorem bX10_restBy_5 {d : Nat} {K : Shp} {H : Mem} {q : Int → Mem → Prop} {v0 v1 v3 v5 : Int} (h : (((v5 : Int) < 0 → q v3 H) ∧ (¬ (v5 : Int) < 0 → (((v1 : Int) ≤ 0 → q v3 H) ∧ (¬ (v1 : Int) ≤ 0 → (inL (v3 * 1000000000)) ∧ ((0 : Int) ≤ v0) ∧ (K[(v0 : Int).toNat]? = some (10, 1)) ∧ ((0 : Int) ≤ (H (v0 : Int).toNat 0)) ∧ ∃ n7 : Nat, (K[((H (v0 : Int).toNat 0) : Int).toNat]? = some (21, n7)) ∧ ((0 : Int) ≤ v5) ∧ ((v5 : Int) < n7) ∧ (inL ((v3 * 1000000000) + (H ((H (v0 : Int).toNat 0) : Int).toNat (v5 : Int).toNat))) ∧ ((v1 : Int) ≠ 0) ∧ (inL (Int.tmod ((v3 * 1000000000) + (H ((H (v0 : Int).toNat 0) : Int).toNat (v5 : Int).toNat)) v1)) ∧ (inI (v5 + (-1))) ∧ FX10_restBy_5 d K H q (v0) (v1) ((Int.tmod ((v3 * 1000000000) + (H ((H (v0 : Int).toNat 0) : Int).toNat (v5 : Int).toNat)) v1)) ((v5 + (-1)))))))) : FX10_restBy_5 d K H q (v0) (v1) (v3) (v5) := by
  unfold FX10_restBy_5
  refine r_iload 3 dX10_restBy_5 rfl ?_
  refine r_if_lt (tgt := 38) dX10_restBy_7 (by decide) (fun c1 => ?_) (fun c1 => ?_)
  · replace h := h.1 c1
    refine r_lload_n 2 dX10_restBy_38 rfl rfl ?_
    exact r_lret dX10_restBy_39 rfl ⟨rfl, _, rfl, h⟩
  · replace h := h.2 c1
    refine r_lload_n 1 dX10_restBy_10 rfl rfl ?_
    refine r_lconst0 dX10_restBy_11 ?_
    refine r_lcmp dX10_restBy_12 ?_
    refine r_if_le (tgt := 38) dX10_restBy_13 (by decide) (fun c2 => ?_) (fun c2 => ?_)
    · replace h := h.1 (cmpL_le.mp c2)
      refine r_lload_n 2 dX10_restBy_38 rfl rfl ?_
      exact r_lret dX10_restBy_39 rfl ⟨rfl, _, rfl, h⟩
    · replace h := h.2 (fun q => c2 (cmpL_le.mpr q))
      refine r_lload_n 2 dX10_restBy_16 rfl rfl ?_
      refine r_ldc2 (x := 1000000000) dX10_restBy_17 kl_RX10_13 (by decide) (by decide) ?_
      obtain ⟨h3, h⟩ := h
      refine r_lmul dX10_restBy_20 h3 ?_
      refine r_aload_n 0 dX10_restBy_21 rfl rfl ?_
      obtain ⟨h4, h⟩ := h
      obtain ⟨h5, h⟩ := h
      refine r_getf cls10 0 dX10_restBy_22 (by decide) fl_RX10_9 rfl h4 h5 ?_
      refine r_iload 3 dX10_restBy_25 rfl ?_
      obtain ⟨h6, h⟩ := h
      obtain ⟨n7, h⟩ := h
      obtain ⟨h8, h⟩ := h
      obtain ⟨h9, h⟩ := h
      obtain ⟨h10, h⟩ := h
      refine r_lald n7 dX10_restBy_27 h6 h8 h9 h10 ?_
      obtain ⟨h11, h⟩ := h
      refine r_ladd dX10_restBy_28 h11 ?_
      refine r_lload_n 1 dX10_restBy_29 rfl rfl ?_
      obtain ⟨h12, h⟩ := h
      obtain ⟨h13, h⟩ := h
      refine r_lrem dX10_restBy_30 h12 h13 ?_
      refine r_lstore_n dX10_restBy_31 rfl (by decide) rfl ?_
      obtain ⟨h14, h⟩ := h
      refine r_iinc 3 dX10_restBy_32 (by decide) rfl h14 rfl ?_
      refine r_goto (tgt := 5) dX10_restBy_35 (by decide) ?_
      refine Fr.fewer [2, 3, 1, 0] rfl ?_
      exact h
set_option maxHeartbeats 4000000 in
set_option maxRecDepth 20000 in
theorem eX10_restBy {d : Nat} {K : Shp} {H : Mem} {q : Int → Mem → Prop} {v0 v1 : Int} (h : inL v1 → Rng K H → FX10_restBy_0 d K H q v0 v1) : Cl mX10_restBy d [(2, v0), (1, v1)] K H q := Call.of rfl (Nat.le_of_ble_eq_true rfl) (fun o r => h (o (1, v1) (by simp)) r)
def FX10_divide_0 (d : Nat) (K : Shp) (H : Mem) (q : Mem → Prop) (v0 : Int) (v1 : Int) : Prop := Fr mX10_divide d 0 0 none 0 [(0, (2, v0)), (1, (1, v1))] [] K H (qv K q)
def FX10_divide_5 (d : Nat) (K : Shp) (H : Mem) (q : Mem → Prop) (v0 : Int) (v1 : Int) (v3 : Int) (v5 : Int) : Prop := Fr mX10_divide d 0 0 none 5 [(0, (2, v0)), (1, (1, v1)), (3, (1, v3)), (5, (0, v5))] [] K H (qv K q)
set_option maxHeartbeats 4000000 in
set_option maxRecDepth 20000 in
theorem bX10_divide_0 {d : Nat} {K : Shp} {H : Mem} {q : Mem → Prop} {v0 v1 : Int} (h : FX10_divide_5 d K H q (v0) (v1) (0) (5)) : FX10_divide_0 d K H q (v0) (v1) := by
  unfold FX10_divide_0
  refine r_lconst0 dX10_divide_0 ?_
  refine r_lstore_n dX10_divide_1 rfl (by decide) rfl ?_
  refine r_iconst dX10_divide_2 (by decide) (by decide) ?_
  refine r_istore dX10_divide_3 (by decide) rfl ?_
  refine Fr.fewer [2, 3, 1, 0] rfl ?_
  exact h
set_option maxHeartbeats 4000000 in
set_option maxRecDepth 20000 in
theorem bX10_divide_5 {d : Nat} {K : Shp} {H : Mem} {q : Mem → Prop} {v0 v1 v3 v5 : Int} (h : (((v5 : Int) < 0 → q H) ∧ (¬ (v5 : Int) < 0 → (((v1 : Int) ≤ 0 → q H) ∧ (¬ (v1 : Int) ≤ 0 → (inL (v3 * 1000000000)) ∧ ((0 : Int) ≤ v0) ∧ (K[(v0 : Int).toNat]? = some (10, 1)) ∧ ((0 : Int) ≤ (H (v0 : Int).toNat 0)) ∧ ∃ n7 : Nat, (K[((H (v0 : Int).toNat 0) : Int).toNat]? = some (21, n7)) ∧ ((0 : Int) ≤ v5) ∧ ((v5 : Int) < n7) ∧ (inL ((v3 * 1000000000) + (H ((H (v0 : Int).toNat 0) : Int).toNat (v5 : Int).toNat))) ∧ ((v1 : Int) ≠ 0) ∧ (inL (Int.tdiv ((v3 * 1000000000) + (H ((H (v0 : Int).toNat 0) : Int).toNat (v5 : Int).toNat)) v1)) ∧ ∀ H14 : Mem, H14 = upA H ((H (v0 : Int).toNat 0) : Int).toNat (up1 (H ((H (v0 : Int).toNat 0) : Int).toNat) (v5 : Int).toNat (Int.tdiv ((v3 * 1000000000) + (H ((H (v0 : Int).toNat 0) : Int).toNat (v5 : Int).toNat)) v1)) → (inL (Int.tmod ((v3 * 1000000000) + (H ((H (v0 : Int).toNat 0) : Int).toNat (v5 : Int).toNat)) v1)) ∧ (inI (v5 + (-1))) ∧ FX10_divide_5 d K H14 q (v0) (v1) ((Int.tmod ((v3 * 1000000000) + (H ((H (v0 : Int).toNat 0) : Int).toNat (v5 : Int).toNat)) v1)) ((v5 + (-1)))))))) : FX10_divide_5 d K H q (v0) (v1) (v3) (v5) := by
  unfold FX10_divide_5
  refine r_iload 3 dX10_divide_5 rfl ?_
  refine r_if_lt (tgt := 53) dX10_divide_7 (by decide) (fun c1 => ?_) (fun c1 => ?_)
  · replace h := h.1 c1
    exact r_vret dX10_divide_53 rfl ⟨rfl, rfl, h⟩
  · replace h := h.2 c1
    refine r_lload_n 1 dX10_divide_10 rfl rfl ?_
    refine r_lconst0 dX10_divide_11 ?_
    refine r_lcmp dX10_divide_12 ?_
    refine r_if_le (tgt := 53) dX10_divide_13 (by decide) (fun c2 => ?_) (fun c2 => ?_)
    · replace h := h.1 (cmpL_le.mp c2)
      exact r_vret dX10_divide_53 rfl ⟨rfl, rfl, h⟩
    · replace h := h.2 (fun q => c2 (cmpL_le.mpr q))
      refine r_lload_n 2 dX10_divide_16 rfl rfl ?_
      refine r_ldc2 (x := 1000000000) dX10_divide_17 kl_RX10_13 (by decide) (by decide) ?_
      obtain ⟨h3, h⟩ := h
      refine r_lmul dX10_divide_20 h3 ?_
      refine r_aload_n 0 dX10_divide_21 rfl rfl ?_
      obtain ⟨h4, h⟩ := h
      obtain ⟨h5, h⟩ := h
      refine r_getf cls10 0 dX10_divide_22 (by decide) fl_RX10_9 rfl h4 h5 ?_
      refine r_iload 3 dX10_divide_25 rfl ?_
      obtain ⟨h6, h⟩ := h
      obtain ⟨n7, h⟩ := h
      obtain ⟨h8, h⟩ := h
      obtain ⟨h9, h⟩ := h
      obtain ⟨h10, h⟩ := h
      refine r_lald n7 dX10_divide_27 h6 h8 h9 h10 ?_
      obtain ⟨h11, h⟩ := h
      refine r_ladd dX10_divide_28 h11 ?_
      refine r_lstore dX10_divide_29 (by decide) rfl ?_
      refine r_aload_n 1 dX10_divide_31 rfl rfl ?_
      refine r_getf cls10 0 dX10_divide_32 (by decide) fl_RX10_9 rfl h4 h5 ?_
      refine r_iload 4 dX10_divide_35 rfl ?_
      refine r_lload 0 dX10_divide_37 rfl ?_
      refine r_lload_n 2 dX10_divide_39 rfl rfl ?_
      obtain ⟨h12, h⟩ := h
      obtain ⟨h13, h⟩ := h
      refine r_ldiv dX10_divide_40 h12 h13 ?_
      refine r_last n7 dX10_divide_41 h6 h8 h9 h10 ?_
      replace h := h _ rfl
      generalize upA H ((H (v0 : Int).toNat 0) : Int).toNat (up1 (H ((H (v0 : Int).toNat 0) : Int).toNat) (v5 : Int).toNat (Int.tdiv ((v3 * 1000000000) + (H ((H (v0 : Int).toNat 0) : Int).toNat (v5 : Int).toNat)) v1)) = H14 at h ⊢
      refine r_lload 0 dX10_divide_42 rfl ?_
      refine r_lload_n 2 dX10_divide_44 rfl rfl ?_
      obtain ⟨h15, h⟩ := h
      refine r_lrem dX10_divide_45 h12 h15 ?_
      refine r_lstore_n dX10_divide_46 rfl (by decide) rfl ?_
      obtain ⟨h16, h⟩ := h
      refine r_iinc 4 dX10_divide_47 (by decide) rfl h16 rfl ?_
      refine r_goto (tgt := 5) dX10_divide_50 (by decide) ?_
      refine Fr.fewer [3, 4, 1, 0] rfl ?_
      exact h
set_option maxHeartbeats 4000000 in
set_option maxRecDepth 20000 in
theorem eX10_divide {d : Nat} {K : Shp} {H : Mem} {q : Mem → Prop} {v0 v1 : Int} (h : inL v1 → Rng K H → FX10_divide_0 d K H q v0 v1) : Cv mX10_divide d [(2, v0), (1, v1)] K H q := Call.of rfl (Nat.le_of_ble_eq_true rfl) (fun o r => h (o (1, v1) (by simp)) r)
def FX10_isUnder_0 (d : Nat) (K : Shp) (H : Mem) (q : Int → Mem → Prop) (v0 : Int) (v1 : Int) : Prop := Fr mX10_isUnder d 0 0 none 0 [(0, (2, v0)), (1, (2, v1))] [] K H (qi K q)
def FX10_isUnder_2 (d : Nat) (K : Shp) (H : Mem) (q : Int → Mem → Prop) (v0 : Int) (v1 : Int) (v2 : Int) : Prop := Fr mX10_isUnder d 0 0 none 2 [(0, (2, v0)), (1, (2, v1)), (2, (0, v2))] [] K H (qi K q)
set_option maxHeartbeats 4000000 in
set_option maxRecDepth 20000 in
theorem bX10_isUnder_0 {d : Nat} {K : Shp} {H : Mem} {q : Int → Mem → Prop} {v0 v1 : Int} (h : FX10_isUnder_2 d K H q (v0) (v1) (5)) : FX10_isUnder_0 d K H q (v0) (v1) := by
  unfold FX10_isUnder_0
  refine r_iconst dX10_isUnder_0 (by decide) (by decide) ?_
  refine r_istore_n dX10_isUnder_1 rfl (by decide) rfl ?_
  refine Fr.fewer [1, 2, 0] rfl ?_
  exact h
set_option maxHeartbeats 4000000 in
set_option maxRecDepth 20000 in
theorem bX10_isUnder_2 {d : Nat} {K : Shp} {H : Mem} {q : Int → Mem → Prop} {v0 v1 v2 : Int} (h : (((v2 : Int) ≤ 0 → ((0 : Int) ≤ v0) ∧ (K[(v0 : Int).toNat]? = some (10, 1)) ∧ ((0 : Int) ≤ (H (v0 : Int).toNat 0)) ∧ ∃ n5 : Nat, (K[((H (v0 : Int).toNat 0) : Int).toNat]? = some (21, n5)) ∧ ((0 : Int) ≤ v2) ∧ ((v2 : Int) < n5) ∧ ((0 : Int) ≤ v1) ∧ (K[(v1 : Int).toNat]? = some (10, 1)) ∧ ((0 : Int) ≤ (H (v1 : Int).toNat 0)) ∧ ∃ n12 : Nat, (K[((H (v1 : Int).toNat 0) : Int).toNat]? = some (21, n12)) ∧ ((v2 : Int) < n12) ∧ ((¬ ((H ((H (v0 : Int).toNat 0) : Int).toNat (v2 : Int).toNat) : Int) < (H ((H (v1 : Int).toNat 0) : Int).toNat (v2 : Int).toNat) → q 0 H) ∧ (((H ((H (v0 : Int).toNat 0) : Int).toNat (v2 : Int).toNat) : Int) < (H ((H (v1 : Int).toNat 0) : Int).toNat (v2 : Int).toNat) → q 1 H))) ∧ (¬ (v2 : Int) ≤ 0 → ((0 : Int) ≤ v0) ∧ (K[(v0 : Int).toNat]? = some (10, 1)) ∧ ((0 : Int) ≤ (H (v0 : Int).toNat 0)) ∧ ∃ n19 : Nat, (K[((H (v0 : Int).toNat 0) : Int).toNat]? = some (21, n19)) ∧ ((0 : Int) ≤ v2) ∧ ((v2 : Int) < n19) ∧ ((0 : Int) ≤ v1) ∧ (K[(v1 : Int).toNat]? = some (10, 1)) ∧ ((0 : Int) ≤ (H (v1 : Int).toNat 0)) ∧ ∃ n26 : Nat, (K[((H (v1 : Int).toNat 0) : Int).toNat]? = some (21, n26)) ∧ ((v2 : Int) < n26) ∧ ((¬ ((H ((H (v0 : Int).toNat 0) : Int).toNat (v2 : Int).toNat) : Int) = (H ((H (v1 : Int).toNat 0) : Int).toNat (v2 : Int).toNat) → ((¬ ((H ((H (v0 : Int).toNat 0) : Int).toNat (v2 : Int).toNat) : Int) < (H ((H (v1 : Int).toNat 0) : Int).toNat (v2 : Int).toNat) → q 0 H) ∧ (((H ((H (v0 : Int).toNat 0) : Int).toNat (v2 : Int).toNat) : Int) < (H ((H (v1 : Int).toNat 0) : Int).toNat (v2 : Int).toNat) → q 1 H))) ∧ (((H ((H (v0 : Int).toNat 0) : Int).toNat (v2 : Int).toNat) : Int) = (H ((H (v1 : Int).toNat 0) : Int).toNat (v2 : Int).toNat) → (inI (v2 + (-1))) ∧ FX10_isUnder_2 d K H q (v0) (v1) ((v2 + (-1)))))))) : FX10_isUnder_2 d K H q (v0) (v1) (v2) := by
  unfold FX10_isUnder_2
  refine r_iload_n 2 dX10_isUnder_2 rfl rfl ?_
  refine r_if_le (tgt := 28) dX10_isUnder_3 (by decide) (fun c1 => ?_) (fun c1 => ?_)
  · replace h := h.1 c1
    refine r_aload_n 0 dX10_isUnder_28 rfl rfl ?_
    obtain ⟨h2, h⟩ := h
    obtain ⟨h3, h⟩ := h
    refine r_getf cls10 0 dX10_isUnder_29 (by decide) fl_RX10_9 rfl h2 h3 ?_
    refine r_iload_n 2 dX10_isUnder_32 rfl rfl ?_
    obtain ⟨h4, h⟩ := h
    obtain ⟨n5, h⟩ := h
    obtain ⟨h6, h⟩ := h
    obtain ⟨h7, h⟩ := h
    obtain ⟨h8, h⟩ := h
    refine r_lald n5 dX10_isUnder_33 h4 h6 h7 h8 ?_
    refine r_aload_n 1 dX10_isUnder_34 rfl rfl ?_
    obtain ⟨h9, h⟩ := h
    obtain ⟨h10, h⟩ := h
    refine r_getf cls10 0 dX10_isUnder_35 (by decide) fl_RX10_9 rfl h9 h10 ?_
    refine r_iload_n 2 dX10_isUnder_38 rfl rfl ?_
    obtain ⟨h11, h⟩ := h
    obtain ⟨n12, h⟩ := h
    obtain ⟨h13, h⟩ := h
    obtain ⟨h14, h⟩ := h
    refine r_lald n12 dX10_isUnder_39 h11 h13 h7 h14 ?_
    refine r_lcmp dX10_isUnder_40 ?_
    refine r_if_ge (tgt := 48) dX10_isUnder_41 (by decide) (fun c15 => ?_) (fun c15 => ?_)
    · replace h := h.1 (fun q => c15 (cmpL_lt.mpr q))
      refine r_iconst dX10_isUnder_48 (by decide) (by decide) ?_
      exact r_zret dX10_isUnder_49 rfl (Or.inl rfl) ⟨rfl, _, rfl, h⟩
    · replace h := h.2 (cmpL_lt.mp c15)
      refine r_iconst dX10_isUnder_44 (by decide) (by decide) ?_
      refine r_goto (tgt := 49) dX10_isUnder_45 (by decide) ?_
      exact r_zret dX10_isUnder_49 rfl (Or.inr rfl) ⟨rfl, _, rfl, h⟩
  · replace h := h.2 c1
    refine r_aload_n 0 dX10_isUnder_6 rfl rfl ?_
    obtain ⟨h16, h⟩ := h
    obtain ⟨h17, h⟩ := h
    refine r_getf cls10 0 dX10_isUnder_7 (by decide) fl_RX10_9 rfl h16 h17 ?_
    refine r_iload_n 2 dX10_isUnder_10 rfl rfl ?_
    obtain ⟨h18, h⟩ := h
    obtain ⟨n19, h⟩ := h
    obtain ⟨h20, h⟩ := h
    obtain ⟨h21, h⟩ := h
    obtain ⟨h22, h⟩ := h
    refine r_lald n19 dX10_isUnder_11 h18 h20 h21 h22 ?_
    refine r_aload_n 1 dX10_isUnder_12 rfl rfl ?_
    obtain ⟨h23, h⟩ := h
    obtain ⟨h24, h⟩ := h
    refine r_getf cls10 0 dX10_isUnder_13 (by decide) fl_RX10_9 rfl h23 h24 ?_
    refine r_iload_n 2 dX10_isUnder_16 rfl rfl ?_
    obtain ⟨h25, h⟩ := h
    obtain ⟨n26, h⟩ := h
    obtain ⟨h27, h⟩ := h
    obtain ⟨h28, h⟩ := h
    refine r_lald n26 dX10_isUnder_17 h25 h27 h21 h28 ?_
    refine r_lcmp dX10_isUnder_18 ?_
    refine r_if_ne (tgt := 28) dX10_isUnder_19 (by decide) (fun c29 => ?_) (fun c29 => ?_)
    · replace h := h.1 (fun q => c29 (cmpL_eq.mpr q))
      refine r_aload_n 0 dX10_isUnder_28 rfl rfl ?_
      refine r_getf cls10 0 dX10_isUnder_29 (by decide) fl_RX10_9 rfl h16 h17 ?_
      refine r_iload_n 2 dX10_isUnder_32 rfl rfl ?_
      refine r_lald n19 dX10_isUnder_33 h18 h20 h21 h22 ?_
      refine r_aload_n 1 dX10_isUnder_34 rfl rfl ?_
      refine r_getf cls10 0 dX10_isUnder_35 (by decide) fl_RX10_9 rfl h23 h24 ?_
      refine r_iload_n 2 dX10_isUnder_38 rfl rfl ?_
      refine r_lald n26 dX10_isUnder_39 h25 h27 h21 h28 ?_
      refine r_lcmp dX10_isUnder_40 ?_
      refine r_if_ge (tgt := 48) dX10_isUnder_41 (by decide) (fun c30 => ?_) (fun c30 => ?_)
      · replace h := h.1 (fun q => c30 (cmpL_lt.mpr q))
        refine r_iconst dX10_isUnder_48 (by decide) (by decide) ?_
        exact r_zret dX10_isUnder_49 rfl (Or.inl rfl) ⟨rfl, _, rfl, h⟩
      · replace h := h.2 (cmpL_lt.mp c30)
        refine r_iconst dX10_isUnder_44 (by decide) (by decide) ?_
        refine r_goto (tgt := 49) dX10_isUnder_45 (by decide) ?_
        exact r_zret dX10_isUnder_49 rfl (Or.inr rfl) ⟨rfl, _, rfl, h⟩
    · replace h := h.2 (cmpL_eq.mp c29)
      obtain ⟨h31, h⟩ := h
      refine r_iinc 2 dX10_isUnder_22 (by decide) rfl h31 rfl ?_
      refine r_goto (tgt := 2) dX10_isUnder_25 (by decide) ?_
      refine Fr.fewer [1, 2, 0] rfl ?_
      exact h
set_option maxHeartbeats 4000000 in
set_option maxRecDepth 20000 in
theorem eX10_isUnder {d : Nat} {K : Shp} {H : Mem} {q : Int → Mem → Prop} {v0 v1 : Int} (h : Rng K H → FX10_isUnder_0 d K H q v0 v1) : Ci mX10_isUnder d [(2, v0), (2, v1)] K H q := Call.of rfl (Nat.le_of_ble_eq_true rfl) (fun o r => h  r)
