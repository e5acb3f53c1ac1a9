/-! printed by gen/emit.py: what a walk from each cut point asks -/
def FX5_put_0 (d : Nat) (K : Shp) (H : Mem) (q : Mem → Prop) (v0 : Int) (v1 : Int) (v3 : Int) : Prop := Fr mX5_put d 0 0 none 0 [(0, (2, v0)), (1, (1, v1)), (3, (1, v3))] [] K H (qv K q)
set_option maxHeartbeats 4000000 in
set_option maxRecDepth 20000 in
theorem bX5_put_0 {d : Nat} {K : Shp} {H : Mem} {q : Mem → Prop} {v0 v1 v3 : Int} (h : ((0 : Int) ≤ v0) ∧ (K[(v0 : Int).toNat]? = some (5, 2)) ∧ ∀ H3 : Mem, H3 = upA H (v0 : Int).toNat (up1 (H (v0 : Int).toNat) 0 v1) → ∀ H4 : Mem, H4 = upA H3 (v0 : Int).toNat (up1 (H3 (v0 : Int).toNat) 1 v3) → q H4) : FX5_put_0 d K H q (v0) (v1) (v3) := by
  unfold FX5_put_0
  refine r_aload_n 0 dX5_put_0 rfl rfl ?_
  refine r_lload_n 1 dX5_put_1 rfl rfl ?_
  obtain ⟨h1, h⟩ := h
  obtain ⟨h2, h⟩ := h
  refine r_putf cls5 0 dX5_put_2 (by decide) rfl fl_RX5_7 rfl h1 h2 (fun o => o) ?_
  replace h := h _ rfl
  generalize upA H (v0 : Int).toNat (up1 (H (v0 : Int).toNat) 0 v1) = H3 at h ⊢
  refine r_aload_n 0 dX5_put_5 rfl rfl ?_
  refine r_lload_n 2 dX5_put_6 rfl rfl ?_
  refine r_putf cls5 1 dX5_put_7 (by decide) rfl fl_RX5_13 rfl h1 h2 (fun o => o) ?_
  replace h := h _ rfl
  generalize upA H3 (v0 : Int).toNat (up1 (H3 (v0 : Int).toNat) 1 v3) = H4 at h ⊢
  exact r_vret dX5_put_10 rfl ⟨rfl, rfl, h⟩
set_option maxHeartbeats 4000000 in
set_option maxRecDepth 20000 in
theorem eX5_put {d : Nat} {K : Shp} {H : Mem} {q : Mem → Prop} {v0 v1 v3 : Int} (h : inL v1 → inL v3 → Rng K H → FX5_put_0 d K H q v0 v1 v3) : Cv mX5_put d [(2, v0), (1, v1), (1, v3)] K H q := Call.of rfl (Nat.le_of_ble_eq_true rfl) (fun o r => h (o (1, v1) (by simp)) (o (1, v3) (by simp)) r)
def FX5_shorten_0 (d : Nat) (K : Shp) (H : Mem) (q : Mem → Prop) (v0 : Int) : Prop := Fr mX5_shorten (d + 1) 0 0 none 0 [(0, (2, v0))] [] K H (qv K q)
set_option maxHeartbeats 4000000 in
set_option maxRecDepth 20000 in
theorem bX5_shorten_0 {d : Nat} {K : Shp} {H : Mem} {q : Mem → Prop} {v0 : Int} (h : ((0 : Int) ≤ v0) ∧ (K[(v0 : Int).toNat]? = some (5, 2)) ∧ Cl mX11_commonDivisor d [(1, (H (v0 : Int).toNat 0)), (1, (H (v0 : Int).toNat 1))] K H (fun x4 H3 => (((x4 : Int) ≤ 1 → q H3) ∧ (¬ (x4 : Int) ≤ 1 → ((x4 : Int) ≠ 0) ∧ (inL (Int.tdiv (H3 (v0 : Int).toNat 0) x4)) ∧ ∀ H8 : Mem, H8 = upA H3 (v0 : Int).toNat (up1 (H3 (v0 : Int).toNat) 0 (Int.tdiv (H3 (v0 : Int).toNat 0) x4)) → (inL (Int.tdiv (H8 (v0 : Int).toNat 1) x4)) ∧ ∀ H10 : Mem, H10 = upA H8 (v0 : Int).toNat (up1 (H8 (v0 : Int).toNat) 1 (Int.tdiv (H8 (v0 : Int).toNat 1) x4)) → q H10)))) : FX5_shorten_0 d K H q (v0) := by
  unfold FX5_shorten_0
  refine r_aload_n 0 dX5_shorten_0 rfl rfl ?_
  obtain ⟨h1, h⟩ := h
  obtain ⟨h2, h⟩ := h
  refine r_getf cls5 0 dX5_shorten_1 (by decide) fl_RX5_7 rfl h1 h2 ?_
  refine r_aload_n 0 dX5_shorten_4 rfl rfl ?_
  refine r_getf cls5 1 dX5_shorten_5 (by decide) fl_RX5_13 rfl h1 h2 ?_
  refine r_invSN (M := mX5_shorten) (As := [(1, (H (v0 : Int).toNat 0)), (1, (H (v0 : Int).toNat 1))]) (st := []) (mc := 0) (ms := 0) (fc := 0) (fs := 0) h ok_X11_commonDivisor sm_X11_commonDivisor mn_RX5_16 dX5_shorten_8 rfl (Nat.le_of_ble_eq_true rfl) rfl ?_
  rintro r K1 H3 ⟨rfl, x4, rfl, h⟩ -
  show Fr mX5_shorten (d + 1) 0 0 none 11 [(0, (2, v0))] [(1, x4)] _ H3 _
  refine r_lstore_n dX5_shorten_11 rfl (by decide) rfl ?_
  refine r_lload_n 0 dX5_shorten_12 rfl rfl ?_
  refine r_lconst1 dX5_shorten_13 ?_
  refine r_lcmp dX5_shorten_14 ?_
  refine r_if_le (tgt := 38) dX5_shorten_15 (by decide) (fun c5 => ?_) (fun c5 => ?_)
  · replace h := h.1 (cmpL_le.mp c5)
    exact r_vret dX5_shorten_38 rfl ⟨rfl, rfl, h⟩
  · replace h := h.2 (fun q => c5 (cmpL_le.mpr q))
    refine r_aload_n 1 dX5_shorten_18 rfl rfl ?_
    refine r_dup dX5_shorten_19 (show (2 : Nat) ≠ 1 by decide) ?_
    refine r_getf cls5 0 dX5_shorten_20 (by decide) fl_RX5_7 rfl h1 h2 ?_
    refine r_lload_n 0 dX5_shorten_23 rfl rfl ?_
    obtain ⟨h6, h⟩ := h
    obtain ⟨h7, h⟩ := h
    refine r_ldiv dX5_shorten_24 h6 h7 ?_
    refine r_putf cls5 0 dX5_shorten_25 (by decide) rfl fl_RX5_7 rfl h1 h2 (fun o => o) ?_
    replace h := h _ rfl
    generalize upA H3 (v0 : Int).toNat (up1 (H3 (v0 : Int).toNat) 0 (Int.tdiv (H3 (v0 : Int).toNat 0) x4)) = H8 at h ⊢
    refine r_aload_n 1 dX5_shorten_28 rfl rfl ?_
    refine r_dup dX5_shorten_29 (show (2 : Nat) ≠ 1 by decide) ?_
    refine r_getf cls5 1 dX5_shorten_30 (by decide) fl_RX5_13 rfl h1 h2 ?_
    refine r_lload_n 0 dX5_shorten_33 rfl rfl ?_
    obtain ⟨h9, h⟩ := h
    refine r_ldiv dX5_shorten_34 h6 h9 ?_
    refine r_putf cls5 1 dX5_shorten_35 (by decide) rfl fl_RX5_13 rfl h1 h2 (fun o => o) ?_
    replace h := h _ rfl
    generalize upA H8 (v0 : Int).toNat (up1 (H8 (v0 : Int).toNat) 1 (Int.tdiv (H8 (v0 : Int).toNat 1) x4)) = H10 at h ⊢
    exact r_vret dX5_shorten_38 rfl ⟨rfl, rfl, h⟩
set_option maxHeartbeats 4000000 in
set_option maxRecDepth 20000 in
theorem eX5_shorten {d : Nat} {K : Shp} {H : Mem} {q : Mem → Prop} {v0 : Int} (h : Rng K H → FX5_shorten_0 d K H q v0) : Cv mX5_shorten (d + 1) [(2, v0)] K H q := Call.of rfl (Nat.le_of_ble_eq_true rfl) (fun o r => h  r)
def FX5_scale_0 (d : Nat) (K : Shp) (H : Mem) (q : Mem → Prop) (v0 : Int) (v1 : Int) : Prop := Fr mX5_scale (d + 1) 0 0 none 0 [(0, (2, v0)), (1, (1, v1))] [] K H (qv K q)
set_option maxHeartbeats 4000000 in
set_option maxRecDepth 20000 in
theorem bX5_scale_0 {d : Nat} {K : Shp} {H : Mem} {q : Mem → Prop} {v0 v1 : Int} (h : ((0 : Int) ≤ v0) ∧ (K[(v0 : Int).toNat]? = some (5, 2)) ∧ (inL ((H (v0 : Int).toNat 0) * v1)) ∧ ∀ H4 : Mem, H4 = upA H (v0 : Int).toNat (up1 (H (v0 : Int).toNat) 0 ((H (v0 : Int).toNat 0) * v1)) → Cv mX5_shorten d [(2, v0)] K H4 (fun H5 => q H5)) : FX5_scale_0 d K H q (v0) (v1) := by
  unfold FX5_scale_0
  refine r_aload_n 0 dX5_scale_0 rfl rfl ?_
  refine r_dup dX5_scale_1 (show (2 : Nat) ≠ 1 by decide) ?_
  obtain ⟨h1, h⟩ := h
  obtain ⟨h2, h⟩ := h
  refine r_getf cls5 0 dX5_scale_2 (by decide) fl_RX5_7 rfl h1 h2 ?_
  refine r_lload_n 1 dX5_scale_5 rfl rfl ?_
  obtain ⟨h3, h⟩ := h
  refine r_lmul dX5_scale_6 h3 ?_
  refine r_putf cls5 0 dX5_scale_7 (by decide) rfl fl_RX5_7 rfl h1 h2 (fun o => o) ?_
  replace h := h _ rfl
  generalize upA H (v0 : Int).toNat (up1 (H (v0 : Int).toNat) 0 ((H (v0 : Int).toNat 0) * v1)) = H4 at h ⊢
  refine r_aload_n 0 dX5_scale_10 rfl rfl ?_
  refine r_invV (M := mX5_scale) (As := []) (st := []) (X := v0) (mc := 0) (ms := 0) (fc := 0) (fs := 0) h ok_X5_shorten cls5 im_X5_shorten se_X5_shorten ml_RX5_22 dX5_scale_11 rfl h1 h2 (Nat.le_of_ble_eq_true rfl) rfl ?_
  rintro r K1 H5 ⟨rfl, rfl, h⟩ -
  show Fr mX5_scale (d + 1) 0 0 none 14 [(0, (2, v0)), (1, (1, v1))] [] _ H5 _
  exact r_vret dX5_scale_14 rfl ⟨rfl, rfl, h⟩
set_option maxHeartbeats 4000000 in
set_option maxRecDepth 20000 in
theorem eX5_scale {d : Nat} {K : Shp} {H : Mem} {q : Mem → Prop} {v0 v1 : Int} (h : inL v1 → Rng K H → FX5_scale_0 d K H q v0 v1) : Cv mX5_scale (d + 1) [(2, v0), (1, v1)] K H q := Call.of rfl (Nat.le_of_ble_eq_true rfl) (fun o r => h (o (1, v1) (by simp)) r)
def FX5_plus_0 (d : Nat) (K : Shp) (H : Mem) (q : Mem → Prop) (v0 : Int) (v1 : Int) : Prop := Fr mX5_plus (d + 1) 0 0 none 0 [(0, (2, v0)), (1, (2, v1))] [] K H (qv K q)
set_option maxHeartbeats 4000000 in
set_option maxRecDepth 20000 in
theorem bX5_plus_0 {d : Nat} {K : Shp} {H : Mem} {q : Mem → Prop} {v0 v1 : Int} (h : ((0 : Int) ≤ v0) ∧ (K[(v0 : Int).toNat]? = some (5, 2)) ∧ ((0 : Int) ≤ v1) ∧ (K[(v1 : Int).toNat]? = some (5, 2)) ∧ (inL ((H (v0 : Int).toNat 0) * (H (v1 : Int).toNat 1))) ∧ (inL ((H (v1 : Int).toNat 0) * (H (v0 : Int).toNat 1))) ∧ (inL (((H (v0 : Int).toNat 0) * (H (v1 : Int).toNat 1)) + ((H (v1 : Int).toNat 0) * (H (v0 : Int).toNat 1)))) ∧ ∀ H8 : Mem, H8 = upA H (v0 : Int).toNat (up1 (H (v0 : Int).toNat) 0 (((H (v0 : Int).toNat 0) * (H (v1 : Int).toNat 1)) + ((H (v1 : Int).toNat 0) * (H (v0 : Int).toNat 1)))) → (inL ((H8 (v0 : Int).toNat 1) * (H8 (v1 : Int).toNat 1))) ∧ ∀ H10 : Mem, H10 = upA H8 (v0 : Int).toNat (up1 (H8 (v0 : Int).toNat) 1 ((H8 (v0 : Int).toNat 1) * (H8 (v1 : Int).toNat 1))) → Cv mX5_shorten d [(2, v0)] K H10 (fun H11 => q H11)) : FX5_plus_0 d K H q (v0) (v1) := by
  unfold FX5_plus_0
  refine r_aload_n 0 dX5_plus_0 rfl rfl ?_
  refine r_aload_n 0 dX5_plus_1 rfl rfl ?_
  obtain ⟨h1, h⟩ := h
  obtain ⟨h2, h⟩ := h
  refine r_getf cls5 0 dX5_plus_2 (by decide) fl_RX5_7 rfl h1 h2 ?_
  refine r_aload_n 1 dX5_plus_5 rfl rfl ?_
  obtain ⟨h3, h⟩ := h
  obtain ⟨h4, h⟩ := h
  refine r_getf cls5 1 dX5_plus_6 (by decide) fl_RX5_13 rfl h3 h4 ?_
  obtain ⟨h5, h⟩ := h
  refine r_lmul dX5_plus_9 h5 ?_
  refine r_aload_n 1 dX5_plus_10 rfl rfl ?_
  refine r_getf cls5 0 dX5_plus_11 (by decide) fl_RX5_7 rfl h3 h4 ?_
  refine r_aload_n 0 dX5_plus_14 rfl rfl ?_
  refine r_getf cls5 1 dX5_plus_15 (by decide) fl_RX5_13 rfl h1 h2 ?_
  obtain ⟨h6, h⟩ := h
  refine r_lmul dX5_plus_18 h6 ?_
  obtain ⟨h7, h⟩ := h
  refine r_ladd dX5_plus_19 h7 ?_
  refine r_putf cls5 0 dX5_plus_20 (by decide) rfl fl_RX5_7 rfl h1 h2 (fun o => o) ?_
  replace h := h _ rfl
  generalize upA H (v0 : Int).toNat (up1 (H (v0 : Int).toNat) 0 (((H (v0 : Int).toNat 0) * (H (v1 : Int).toNat 1)) + ((H (v1 : Int).toNat 0) * (H (v0 : Int).toNat 1)))) = H8 at h ⊢
  refine r_aload_n 0 dX5_plus_23 rfl rfl ?_
  refine r_dup dX5_plus_24 (show (2 : Nat) ≠ 1 by decide) ?_
  refine r_getf cls5 1 dX5_plus_25 (by decide) fl_RX5_13 rfl h1 h2 ?_
  refine r_aload_n 1 dX5_plus_28 rfl rfl ?_
  refine r_getf cls5 1 dX5_plus_29 (by decide) fl_RX5_13 rfl h3 h4 ?_
  obtain ⟨h9, h⟩ := h
  refine r_lmul dX5_plus_32 h9 ?_
  refine r_putf cls5 1 dX5_plus_33 (by decide) rfl fl_RX5_13 rfl h1 h2 (fun o => o) ?_
  replace h := h _ rfl
  generalize upA H8 (v0 : Int).toNat (up1 (H8 (v0 : Int).toNat) 1 ((H8 (v0 : Int).toNat 1) * (H8 (v1 : Int).toNat 1))) = H10 at h ⊢
  refine r_aload_n 0 dX5_plus_36 rfl rfl ?_
  refine r_invV (M := mX5_plus) (As := []) (st := []) (X := v0) (mc := 0) (ms := 0) (fc := 0) (fs := 0) h ok_X5_shorten cls5 im_X5_shorten se_X5_shorten ml_RX5_22 dX5_plus_37 rfl h1 h2 (Nat.le_of_ble_eq_true rfl) rfl ?_
  rintro r K1 H11 ⟨rfl, rfl, h⟩ -
  show Fr mX5_plus (d + 1) 0 0 none 40 [(0, (2, v0)), (1, (2, v1))] [] _ H11 _
  exact r_vret dX5_plus_40 rfl ⟨rfl, rfl, h⟩
set_option maxHeartbeats 4000000 in
set_option maxRecDepth 20000 in
theorem eX5_plus {d : Nat} {K : Shp} {H : Mem} {q : Mem → Prop} {v0 v1 : Int} (h : Rng K H → FX5_plus_0 d K H q v0 v1) : Cv mX5_plus (d + 1) [(2, v0), (2, v1)] K H q := Call.of rfl (Nat.le_of_ble_eq_true rfl) (fun o r => h  r)
def FX5_isUnder_0 (d : Nat) (K : Shp) (H : Mem) (q : Int → Mem → Prop) (v0 : Int) (v1 : Int) : Prop := Fr mX5_isUnder d 0 0 none 0 [(0, (2, v0)), (1, (2, v1))] [] K H (qi K q)
set_option maxHeartbeats 4000000 in
set_option maxRecDepth 20000 in
theorem bX5_isUnder_0 {d : Nat} {K : Shp} {H : Mem} {q : Int → Mem → Prop} {v0 v1 : Int} (h : ((0 : Int) ≤ v0) ∧ (K[(v0 : Int).toNat]? = some (5, 2)) ∧ ((0 : Int) ≤ v1) ∧ (K[(v1 : Int).toNat]? = some (5, 2)) ∧ (inL ((H (v0 : Int).toNat 0) * (H (v1 : Int).toNat 1))) ∧ (inL ((H (v1 : Int).toNat 0) * (H (v0 : Int).toNat 1))) ∧ ((¬ (((H (v0 : Int).toNat 0) * (H (v1 : Int).toNat 1)) : Int) < ((H (v1 : Int).toNat 0) * (H (v0 : Int).toNat 1)) → q 0 H) ∧ ((((H (v0 : Int).toNat 0) * (H (v1 : Int).toNat 1)) : Int) < ((H (v1 : Int).toNat 0) * (H (v0 : Int).toNat 1)) → q 1 H))) : FX5_isUnder_0 d K H q (v0) (v1) := by
  unfold FX5_isUnder_0
  refine r_aload_n 0 dX5_isUnder_0 rfl rfl ?_
  obtain ⟨h1, h⟩ := h
  obtain ⟨h2, h⟩ := h
  refine r_getf cls5 0 dX5_isUnder_1 (by decide) fl_RX5_7 rfl h1 h2 ?_
  refine r_aload_n 1 dX5_isUnder_4 rfl rfl ?_
  obtain ⟨h3, h⟩ := h
  obtain ⟨h4, h⟩ := h
  refine r_getf cls5 1 dX5_isUnder_5 (by decide) fl_RX5_13 rfl h3 h4 ?_
  obtain ⟨h5, h⟩ := h
  refine r_lmul dX5_isUnder_8 h5 ?_
  refine r_aload_n 1 dX5_isUnder_9 rfl rfl ?_
  refine r_getf cls5 0 dX5_isUnder_10 (by decide) fl_RX5_7 rfl h3 h4 ?_
  refine r_aload_n 0 dX5_isUnder_13 rfl rfl ?_
  refine r_getf cls5 1 dX5_isUnder_14 (by decide) fl_RX5_13 rfl h1 h2 ?_
  obtain ⟨h6, h⟩ := h
  refine r_lmul dX5_isUnder_17 h6 ?_
  refine r_lcmp dX5_isUnder_18 ?_
  refine r_if_ge (tgt := 26) dX5_isUnder_19 (by decide) (fun c7 => ?_) (fun c7 => ?_)
  · replace h := h.1 (fun q => c7 (cmpL_lt.mpr q))
    refine r_iconst dX5_isUnder_26 (by decide) (by decide) ?_
    exact r_zret dX5_isUnder_27 rfl (Or.inl rfl) ⟨rfl, _, rfl, h⟩
  · replace h := h.2 (cmpL_lt.mp c7)
    refine r_iconst dX5_isUnder_22 (by decide) (by decide) ?_
    refine r_goto (tgt := 27) dX5_isUnder_23 (by decide) ?_
    exact r_zret dX5_isUnder_27 rfl (Or.inr rfl) ⟨rfl, _, rfl, h⟩
set_option maxHeartbeats 4000000 in
set_option maxRecDepth 20000 in
theorem eX5_isUnder {d : Nat} {K : Shp} {H : Mem} {q : Int → Mem → Prop} {v0 v1 : Int} (h : Rng K H → FX5_isUnder_0 d K H q v0 v1) : Ci mX5_isUnder d [(2, v0), (2, v1)] K H q := Call.of rfl (Nat.le_of_ble_eq_true rfl) (fun o r => h  r)
