/-! printed by gen/emit.py: what a walk from each cut point asks -/
def FX7_hasLoadAt_0 (d : Nat) (K : Shp) (H : Mem) (q : Int → Mem → Prop) (v0 : Int) (v1 : Int) : Prop := Fr mX7_hasLoadAt d 0 0 none 0 [(0, (2, v0)), (1, (0, v1))] [] K H (qi K q)
def FX7_hasLoadAt_4 (d : Nat) (K : Shp) (H : Mem) (q : Int → Mem → Prop) (v0 : Int) (v1 : Int) (v2 : Int) (v3 : Int) : Prop := Fr mX7_hasLoadAt d 0 0 none 4 [(0, (2, v0)), (1, (0, v1)), (2, (0, v2)), (3, (0, v3))] [] K H (qi K q)
set_option maxHeartbeats 4000000 in
set_option maxRecDepth 20000 in
theorem bX7_hasLoadAt_0 {d : Nat} {K : Shp} {H : Mem} {q : Int → Mem → Prop} {v0 v1 : Int} (h : FX7_hasLoadAt_4 d K H q (v0) (v1) (0) (0)) : FX7_hasLoadAt_0 d K H q (v0) (v1) := by
  unfold FX7_hasLoadAt_0
  refine r_iconst dX7_hasLoadAt_0 (by decide) (by decide) ?_
  refine r_istore_n dX7_hasLoadAt_1 rfl (by decide) rfl ?_
  refine r_iconst dX7_hasLoadAt_2 (by decide) (by decide) ?_
  refine r_istore_n dX7_hasLoadAt_3 rfl (by decide) rfl ?_
  refine Fr.fewer [2, 3, 1, 0] rfl ?_
  exact h
set_option maxHeartbeats 4000000 in
set_option maxRecDepth 20000 in
theorem bX7_hasLoadAt_4 {d : Nat} {K : Shp} {H : Mem} {q : Int → Mem → Prop} {v0 v1 v2 v3 : Int} (h : ((0 : Int) ≤ v0) ∧ (K[(v0 : Int).toNat]? = some (7, 5)) ∧ ((¬ (v3 : Int) < (H (v0 : Int).toNat 2) → ((v2 : Int) = 0 ∨ (v2 : Int) = 1) ∧ q v2 H) ∧ ((v3 : Int) < (H (v0 : Int).toNat 2) → ((¬ (v2 : Int) = 0 → (inI (v3 + 1)) ∧ FX7_hasLoadAt_4 d K H q (v0) (v1) (1) ((v3 + 1))) ∧ ((v2 : Int) = 0 → ((0 : Int) ≤ (H (v0 : Int).toNat 3)) ∧ ∃ n8 : Nat, (K[((H (v0 : Int).toNat 3) : Int).toNat]? = some (20, n8)) ∧ ((0 : Int) ≤ v3) ∧ ((v3 : Int) < n8) ∧ ((¬ ((H ((H (v0 : Int).toNat 3) : Int).toNat (v3 : Int).toNat) : Int) = v1 → (inI (v3 + 1)) ∧ FX7_hasLoadAt_4 d K H q (v0) (v1) (0) ((v3 + 1))) ∧ (((H ((H (v0 : Int).toNat 3) : Int).toNat (v3 : Int).toNat) : Int) = v1 → (inI (v3 + 1)) ∧ FX7_hasLoadAt_4 d K H q (v0) (v1) (1) ((v3 + 1))))))))) : FX7_hasLoadAt_4 d K H q (v0) (v1) (v2) (v3) := by
  unfold FX7_hasLoadAt_4
  refine r_iload_n 3 dX7_hasLoadAt_4 rfl rfl ?_
  refine r_aload_n 0 dX7_hasLoadAt_5 rfl rfl ?_
  obtain ⟨h1, h⟩ := h
  obtain ⟨h2, h⟩ := h
  refine r_getf cls7 2 dX7_hasLoadAt_6 (by decide) fl_RX7_18 rfl h1 h2 ?_
  refine r_icmp_ge (tgt := 38) dX7_hasLoadAt_9 (by decide) (fun c3 => ?_) (fun c3 => ?_)
  · replace h := h.1 c3
    refine r_iload_n 2 dX7_hasLoadAt_38 rfl rfl ?_
    obtain ⟨h4, h⟩ := h
    exact r_zret dX7_hasLoadAt_39 rfl h4 ⟨rfl, _, rfl, h⟩
  · replace h := h.2 c3
    refine r_iload_n 2 dX7_hasLoadAt_12 rfl rfl ?_
    refine r_if_ne (tgt := 26) dX7_hasLoadAt_13 (by decide) (fun c5 => ?_) (fun c5 => ?_)
    · replace h := h.1 c5
      refine r_iconst dX7_hasLoadAt_26 (by decide) (by decide) ?_
      refine r_goto (tgt := 31) dX7_hasLoadAt_27 (by decide) ?_
      refine r_istore_n dX7_hasLoadAt_31 rfl (by decide) rfl ?_
      obtain ⟨h6, h⟩ := h
      refine r_iinc 3 dX7_hasLoadAt_32 (by decide) rfl h6 rfl ?_
      refine r_goto (tgt := 4) dX7_hasLoadAt_35 (by decide) ?_
      refine Fr.fewer [2, 3, 1, 0] rfl ?_
      exact h
    · replace h := h.2 c5
      refine r_aload_n 0 dX7_hasLoadAt_16 rfl rfl ?_
      refine r_getf cls7 3 dX7_hasLoadAt_17 (by decide) fl_RX7_21 rfl h1 h2 ?_
      refine r_iload_n 3 dX7_hasLoadAt_20 rfl rfl ?_
      obtain ⟨h7, h⟩ := h
      obtain ⟨n8, h⟩ := h
      obtain ⟨h9, h⟩ := h
      obtain ⟨h10, h⟩ := h
      obtain ⟨h11, h⟩ := h
      refine r_iald n8 dX7_hasLoadAt_21 h7 h9 h10 h11 ?_
      refine r_iload_n 1 dX7_hasLoadAt_22 rfl rfl ?_
      refine r_icmp_ne (tgt := 30) dX7_hasLoadAt_23 (by decide) (fun c12 => ?_) (fun c12 => ?_)
      · replace h := h.1 c12
        refine r_iconst dX7_hasLoadAt_30 (by decide) (by decide) ?_
        refine r_istore_n dX7_hasLoadAt_31 rfl (by decide) rfl ?_
        obtain ⟨h13, h⟩ := h
        refine r_iinc 3 dX7_hasLoadAt_32 (by decide) rfl h13 rfl ?_
        refine r_goto (tgt := 4) dX7_hasLoadAt_35 (by decide) ?_
        refine Fr.fewer [2, 3, 1, 0] rfl ?_
        exact h
      · replace h := h.2 c12
        refine r_iconst dX7_hasLoadAt_26 (by decide) (by decide) ?_
        refine r_goto (tgt := 31) dX7_hasLoadAt_27 (by decide) ?_
        refine r_istore_n dX7_hasLoadAt_31 rfl (by decide) rfl ?_
        obtain ⟨h14, h⟩ := h
        refine r_iinc 3 dX7_hasLoadAt_32 (by decide) rfl h14 rfl ?_
        refine r_goto (tgt := 4) dX7_hasLoadAt_35 (by decide) ?_
        refine Fr.fewer [2, 3, 1, 0] rfl ?_
        exact h
set_option maxHeartbeats 4000000 in
set_option maxRecDepth 20000 in
theorem eX7_hasLoadAt {d : Nat} {K : Shp} {H : Mem} {q : Int → Mem → Prop} {v0 v1 : Int} (h : inI v1 → Rng K H → FX7_hasLoadAt_0 d K H q v0 v1) : Ci mX7_hasLoadAt d [(2, v0), (0, v1)] K H q := Call.of rfl (Nat.le_of_ble_eq_true rfl) (fun o r => h (o (0, v1) (by simp)) r)
def FX7_addLoad_0 (d : Nat) (K : Shp) (H : Mem) (q : Int → Mem → Prop) (v0 : Int) (v1 : Int) (v2 : Int) : Prop := Fr mX7_addLoad d 0 0 none 0 [(0, (2, v0)), (1, (0, v1)), (2, (0, v2))] [] K H (qi K q)
set_option maxHeartbeats 4000000 in
set_option maxRecDepth 20000 in
theorem bX7_addLoad_0 {d : Nat} {K : Shp} {H : Mem} {q : Int → Mem → Prop} {v0 v1 v2 : Int} (h : ((0 : Int) ≤ v0) ∧ (K[(v0 : Int).toNat]? = some (7, 5)) ∧ ((0 : Int) ≤ (H (v0 : Int).toNat 3)) ∧ ∃ n4 : Nat, (K[((H (v0 : Int).toNat 3) : Int).toNat]? = some (20, n4)) ∧ ((0 : Int) ≤ (H (v0 : Int).toNat 2)) ∧ (((H (v0 : Int).toNat 2) : Int) < n4) ∧ ∀ H8 : Mem, H8 = upA H ((H (v0 : Int).toNat 3) : Int).toNat (up1 (H ((H (v0 : Int).toNat 3) : Int).toNat) ((H (v0 : Int).toNat 2) : Int).toNat v1) → ((0 : Int) ≤ (H8 (v0 : Int).toNat 4)) ∧ ∃ n10 : Nat, (K[((H8 (v0 : Int).toNat 4) : Int).toNat]? = some (20, n10)) ∧ ((0 : Int) ≤ (H8 (v0 : Int).toNat 2)) ∧ (((H8 (v0 : Int).toNat 2) : Int) < n10) ∧ ∀ H14 : Mem, H14 = upA H8 ((H8 (v0 : Int).toNat 4) : Int).toNat (up1 (H8 ((H8 (v0 : Int).toNat 4) : Int).toNat) ((H8 (v0 : Int).toNat 2) : Int).toNat v2) → (inI ((H14 (v0 : Int).toNat 2) + 1)) ∧ ∀ H16 : Mem, H16 = upA H14 (v0 : Int).toNat (up1 (H14 (v0 : Int).toNat) 2 ((H14 (v0 : Int).toNat 2) + 1)) → (inI ((H16 (v0 : Int).toNat 2) - 1)) ∧ q ((H16 (v0 : Int).toNat 2) - 1) H16) : FX7_addLoad_0 d K H q (v0) (v1) (v2) := by
  unfold FX7_addLoad_0
  refine r_aload_n 0 dX7_addLoad_0 rfl rfl ?_
  obtain ⟨h1, h⟩ := h
  obtain ⟨h2, h⟩ := h
  refine r_getf cls7 3 dX7_addLoad_1 (by decide) fl_RX7_21 rfl h1 h2 ?_
  refine r_aload_n 0 dX7_addLoad_4 rfl rfl ?_
  refine r_getf cls7 2 dX7_addLoad_5 (by decide) fl_RX7_18 rfl h1 h2 ?_
  refine r_iload_n 1 dX7_addLoad_8 rfl rfl ?_
  obtain ⟨h3, h⟩ := h
  obtain ⟨n4, h⟩ := h
  obtain ⟨h5, h⟩ := h
  obtain ⟨h6, h⟩ := h
  obtain ⟨h7, h⟩ := h
  refine r_iast n4 dX7_addLoad_9 h3 h5 h6 h7 ?_
  replace h := h _ rfl
  generalize upA H ((H (v0 : Int).toNat 3) : Int).toNat (up1 (H ((H (v0 : Int).toNat 3) : Int).toNat) ((H (v0 : Int).toNat 2) : Int).toNat v1) = H8 at h ⊢
  refine r_aload_n 0 dX7_addLoad_10 rfl rfl ?_
  refine r_getf cls7 4 dX7_addLoad_11 (by decide) fl_RX7_25 rfl h1 h2 ?_
  refine r_aload_n 0 dX7_addLoad_14 rfl rfl ?_
  refine r_getf cls7 2 dX7_addLoad_15 (by decide) fl_RX7_18 rfl h1 h2 ?_
  refine r_iload_n 2 dX7_addLoad_18 rfl rfl ?_
  obtain ⟨h9, h⟩ := h
  obtain ⟨n10, h⟩ := h
  obtain ⟨h11, h⟩ := h
  obtain ⟨h12, h⟩ := h
  obtain ⟨h13, h⟩ := h
  refine r_iast n10 dX7_addLoad_19 h9 h11 h12 h13 ?_
  replace h := h _ rfl
  generalize upA H8 ((H8 (v0 : Int).toNat 4) : Int).toNat (up1 (H8 ((H8 (v0 : Int).toNat 4) : Int).toNat) ((H8 (v0 : Int).toNat 2) : Int).toNat v2) = H14 at h ⊢
  refine r_aload_n 0 dX7_addLoad_20 rfl rfl ?_
  refine r_dup dX7_addLoad_21 (show (2 : Nat) ≠ 1 by decide) ?_
  refine r_getf cls7 2 dX7_addLoad_22 (by decide) fl_RX7_18 rfl h1 h2 ?_
  refine r_iconst dX7_addLoad_25 (by decide) (by decide) ?_
  obtain ⟨h15, h⟩ := h
  refine r_iadd dX7_addLoad_26 h15 ?_
  refine r_putf cls7 2 dX7_addLoad_27 (by decide) rfl fl_RX7_18 rfl h1 h2 (fun o => o) ?_
  replace h := h _ rfl
  generalize upA H14 (v0 : Int).toNat (up1 (H14 (v0 : Int).toNat) 2 ((H14 (v0 : Int).toNat 2) + 1)) = H16 at h ⊢
  refine r_aload_n 0 dX7_addLoad_30 rfl rfl ?_
  refine r_getf cls7 2 dX7_addLoad_31 (by decide) fl_RX7_18 rfl h1 h2 ?_
  refine r_iconst dX7_addLoad_34 (by decide) (by decide) ?_
  obtain ⟨h17, h⟩ := h
  refine r_isub dX7_addLoad_35 h17 ?_
  exact r_iret dX7_addLoad_36 rfl ⟨rfl, _, rfl, h⟩
set_option maxHeartbeats 4000000 in
set_option maxRecDepth 20000 in
theorem eX7_addLoad {d : Nat} {K : Shp} {H : Mem} {q : Int → Mem → Prop} {v0 v1 v2 : Int} (h : inI v1 → inI v2 → Rng K H → FX7_addLoad_0 d K H q v0 v1 v2) : Ci mX7_addLoad d [(2, v0), (0, v1), (0, v2)] K H q := Call.of rfl (Nat.le_of_ble_eq_true rfl) (fun o r => h (o (0, v1) (by simp)) (o (0, v2) (by simp)) r)
def FX7_freeTimesLength_0 (d : Nat) (K : Shp) (H : Mem) (q : Int → Mem → Prop) (v0 : Int) (v1 : Int) : Prop := Fr mX7_freeTimesLength (d + 1) 0 0 none 0 [(0, (2, v0)), (1, (0, v1))] [] K H (ql K q)
def FX7_freeTimesLength_5 (d : Nat) (K : Shp) (H : Mem) (q : Int → Mem → Prop) (v0 : Int) (v1 : Int) (v2 : Int) (v4 : Int) : Prop := Fr mX7_freeTimesLength (d + 1) 0 0 none 5 [(0, (2, v0)), (1, (0, v1)), (2, (1, v2)), (4, (0, v4))] [] K H (ql K q)
set_option maxHeartbeats 4000000 in
set_option maxRecDepth 20000 in
theorem bX7_freeTimesLength_0 {d : Nat} {K : Shp} {H : Mem} {q : Int → Mem → Prop} {v0 v1 : Int} (h : FX7_freeTimesLength_5 d K H q (v0) (v1) (0) (0)) : FX7_freeTimesLength_0 d K H q (v0) (v1) := by
  unfold FX7_freeTimesLength_0
  refine r_lconst0 dX7_freeTimesLength_0 ?_
  refine r_lstore_n dX7_freeTimesLength_1 rfl (by decide) rfl ?_
  refine r_iconst dX7_freeTimesLength_2 (by decide) (by decide) ?_
  refine r_istore dX7_freeTimesLength_3 (by decide) rfl ?_
  refine Fr.fewer [2, 3, 1, 0] rfl ?_
  exact h
set_option maxHeartbeats 4000000 in
set_option maxRecDepth 20000 in
theorem bX7_freeTimesLength_5 {d : Nat} {K : Shp} {H : Mem} {q : Int → Mem → Prop} {v0 v1 v2 v4 : Int} (h : ((0 : Int) ≤ v0) ∧ (K[(v0 : Int).toNat]? = some (7, 5)) ∧ ((¬ (v4 : Int) < (H (v0 : Int).toNat 2) → q v2 H) ∧ ((v4 : Int) < (H (v0 : Int).toNat 2) → ((0 : Int) ≤ (H (v0 : Int).toNat 3)) ∧ ∃ n5 : Nat, (K[((H (v0 : Int).toNat 3) : Int).toNat]? = some (20, n5)) ∧ ((0 : Int) ≤ v4) ∧ ((v4 : Int) < n5) ∧ (inI ((H (v0 : Int).toNat 0) - (max v1 (H ((H (v0 : Int).toNat 3) : Int).toNat (v4 : Int).toNat)))) ∧ ((0 : Int) ≤ (H (v0 : Int).toNat 4)) ∧ ∃ n11 : Nat, (K[((H (v0 : Int).toNat 4) : Int).toNat]? = some (20, n11)) ∧ ((v4 : Int) < n11) ∧ (inL ((H ((H (v0 : Int).toNat 4) : Int).toNat (v4 : Int).toNat) * (min v1 (H ((H (v0 : Int).toNat 3) : Int).toNat (v4 : Int).toNat)))) ∧ (inL (((H ((H (v0 : Int).toNat 4) : Int).toNat (v4 : Int).toNat) * (min v1 (H ((H (v0 : Int).toNat 3) : Int).toNat (v4 : Int).toNat))) * ((H (v0 : Int).toNat 0) - (max v1 (H ((H (v0 : Int).toNat 3) : Int).toNat (v4 : Int).toNat))))) ∧ (inL (v2 + (((H ((H (v0 : Int).toNat 4) : Int).toNat (v4 : Int).toNat) * (min v1 (H ((H (v0 : Int).toNat 3) : Int).toNat (v4 : Int).toNat))) * ((H (v0 : Int).toNat 0) - (max v1 (H ((H (v0 : Int).toNat 3) : Int).toNat (v4 : Int).toNat)))))) ∧ (inI (v4 + 1)) ∧ FX7_freeTimesLength_5 d K H q (v0) (v1) ((v2 + (((H ((H (v0 : Int).toNat 4) : Int).toNat (v4 : Int).toNat) * (min v1 (H ((H (v0 : Int).toNat 3) : Int).toNat (v4 : Int).toNat))) * ((H (v0 : Int).toNat 0) - (max v1 (H ((H (v0 : Int).toNat 3) : Int).toNat (v4 : Int).toNat)))))) ((v4 + 1))))) : FX7_freeTimesLength_5 d K H q (v0) (v1) (v2) (v4) := by
  unfold FX7_freeTimesLength_5
  refine r_iload 3 dX7_freeTimesLength_5 rfl ?_
  refine r_aload_n 0 dX7_freeTimesLength_7 rfl rfl ?_
  obtain ⟨h1, h⟩ := h
  obtain ⟨h2, h⟩ := h
  refine r_getf cls7 2 dX7_freeTimesLength_8 (by decide) fl_RX7_18 rfl h1 h2 ?_
  refine r_icmp_ge (tgt := 70) dX7_freeTimesLength_11 (by decide) (fun c3 => ?_) (fun c3 => ?_)
  · replace h := h.1 c3
    refine r_lload_n 2 dX7_freeTimesLength_70 rfl rfl ?_
    exact r_lret dX7_freeTimesLength_71 rfl ⟨rfl, _, rfl, h⟩
  · replace h := h.2 c3
    refine r_iload_n 1 dX7_freeTimesLength_14 rfl rfl ?_
    refine r_aload_n 0 dX7_freeTimesLength_15 rfl rfl ?_
    refine r_getf cls7 3 dX7_freeTimesLength_16 (by decide) fl_RX7_21 rfl h1 h2 ?_
    refine r_iload 3 dX7_freeTimesLength_19 rfl ?_
    obtain ⟨h4, h⟩ := h
    obtain ⟨n5, h⟩ := h
    obtain ⟨h6, h⟩ := h
    obtain ⟨h7, h⟩ := h
    obtain ⟨h8, h⟩ := h
    refine r_iald n5 dX7_freeTimesLength_21 h4 h6 h7 h8 ?_
    refine r_mini dX7_freeTimesLength_22 ml_RX7_28 (Nat.le_of_ble_eq_true rfl) ?_
    refine r_istore dX7_freeTimesLength_25 (by decide) rfl ?_
    refine r_aload_n 1 dX7_freeTimesLength_27 rfl rfl ?_
    refine r_getf cls7 0 dX7_freeTimesLength_28 (by decide) fl_RX7_9 rfl h1 h2 ?_
    refine r_iload_n 2 dX7_freeTimesLength_31 rfl rfl ?_
    refine r_aload_n 1 dX7_freeTimesLength_32 rfl rfl ?_
    refine r_getf cls7 3 dX7_freeTimesLength_33 (by decide) fl_RX7_21 rfl h1 h2 ?_
    refine r_iload 4 dX7_freeTimesLength_36 rfl ?_
    refine r_iald n5 dX7_freeTimesLength_38 h4 h6 h7 h8 ?_
    refine r_maxi dX7_freeTimesLength_39 ml_RX7_34 (Nat.le_of_ble_eq_true rfl) ?_
    obtain ⟨h9, h⟩ := h
    refine r_isub dX7_freeTimesLength_42 h9 ?_
    refine r_istore dX7_freeTimesLength_43 (by decide) rfl ?_
    refine r_lload_n 4 dX7_freeTimesLength_45 rfl rfl ?_
    refine r_aload_n 2 dX7_freeTimesLength_46 rfl rfl ?_
    refine r_getf cls7 4 dX7_freeTimesLength_47 (by decide) fl_RX7_25 rfl h1 h2 ?_
    refine r_iload 5 dX7_freeTimesLength_50 rfl ?_
    obtain ⟨h10, h⟩ := h
    obtain ⟨n11, h⟩ := h
    obtain ⟨h12, h⟩ := h
    obtain ⟨h13, h⟩ := h
    refine r_iald n11 dX7_freeTimesLength_52 h10 h12 h7 h13 ?_
    refine r_i2l dX7_freeTimesLength_53 ?_
    refine r_iload 1 dX7_freeTimesLength_54 rfl ?_
    refine r_i2l dX7_freeTimesLength_56 ?_
    obtain ⟨h14, h⟩ := h
    refine r_lmul dX7_freeTimesLength_57 h14 ?_
    refine r_iload 0 dX7_freeTimesLength_58 rfl ?_
    refine r_i2l dX7_freeTimesLength_60 ?_
    obtain ⟨h15, h⟩ := h
    refine r_lmul dX7_freeTimesLength_61 h15 ?_
    obtain ⟨h16, h⟩ := h
    refine r_ladd dX7_freeTimesLength_62 h16 ?_
    refine r_lstore_n dX7_freeTimesLength_63 rfl (by decide) rfl ?_
    obtain ⟨h17, h⟩ := h
    refine r_iinc 5 dX7_freeTimesLength_64 (by decide) rfl h17 rfl ?_
    refine r_goto (tgt := 5) dX7_freeTimesLength_67 (by decide) ?_
    refine Fr.fewer [4, 5, 1, 0] rfl ?_
    exact h
set_option maxHeartbeats 4000000 in
set_option maxRecDepth 20000 in
theorem eX7_freeTimesLength {d : Nat} {K : Shp} {H : Mem} {q : Int → Mem → Prop} {v0 v1 : Int} (h : inI v1 → Rng K H → FX7_freeTimesLength_0 d K H q v0 v1) : Cl mX7_freeTimesLength (d + 1) [(2, v0), (0, v1)] K H q := Call.of rfl (Nat.le_of_ble_eq_true rfl) (fun o r => h (o (0, v1) (by simp)) r)
