/-! printed by gen/emit.py: what a walk from each cut point asks -/
def FX0_addSpan_0 (d : Nat) (K : Shp) (H : Mem) (q : Int → Mem → Prop) (v0 : Int) (v1 : Int) (v2 : Int) : Prop := Fr mX0_addSpan d 0 0 none 0 [(0, (2, v0)), (1, (0, v1)), (2, (0, v2))] [] K H (qi K q)
set_option maxHeartbeats 4000000 in
set_option maxRecDepth 20000 in
theorem bX0_addSpan_0 {d : Nat} {K : Shp} {H : Mem} {q : Int → Mem → Prop} {v0 v1 v2 : Int} (h : ((0 : Int) ≤ v0) ∧ (K[(v0 : Int).toNat]? = some (0, 12)) ∧ ((0 : Int) ≤ (H (v0 : Int).toNat 1)) ∧ ∃ n4 : Nat, (K[((H (v0 : Int).toNat 1) : Int).toNat]? = some (24, n4)) ∧ ((0 : Int) ≤ (H (v0 : Int).toNat 0)) ∧ (((H (v0 : Int).toNat 0) : Int) < n4) ∧ ((0 : Int) ≤ (H ((H (v0 : Int).toNat 1) : Int).toNat ((H (v0 : Int).toNat 0) : Int).toNat)) ∧ (K[((H ((H (v0 : Int).toNat 1) : Int).toNat ((H (v0 : Int).toNat 0) : Int).toNat) : Int).toNat]? = some (7, 5)) ∧ ∀ H10 : Mem, H10 = upA H ((H ((H (v0 : Int).toNat 1) : Int).toNat ((H (v0 : Int).toNat 0) : Int).toNat) : Int).toNat (up1 (H ((H ((H (v0 : Int).toNat 1) : Int).toNat ((H (v0 : Int).toNat 0) : Int).toNat) : Int).toNat) 0 v1) → ((0 : Int) ≤ (H10 (v0 : Int).toNat 1)) ∧ ∃ n12 : Nat, (K[((H10 (v0 : Int).toNat 1) : Int).toNat]? = some (24, n12)) ∧ ((0 : Int) ≤ (H10 (v0 : Int).toNat 0)) ∧ (((H10 (v0 : Int).toNat 0) : Int) < n12) ∧ ((0 : Int) ≤ (H10 ((H10 (v0 : Int).toNat 1) : Int).toNat ((H10 (v0 : Int).toNat 0) : Int).toNat)) ∧ (K[((H10 ((H10 (v0 : Int).toNat 1) : Int).toNat ((H10 (v0 : Int).toNat 0) : Int).toNat) : Int).toNat]? = some (7, 5)) ∧ ∀ H18 : Mem, H18 = upA H10 ((H10 ((H10 (v0 : Int).toNat 1) : Int).toNat ((H10 (v0 : Int).toNat 0) : Int).toNat) : Int).toNat (up1 (H10 ((H10 ((H10 (v0 : Int).toNat 1) : Int).toNat ((H10 (v0 : Int).toNat 0) : Int).toNat) : Int).toNat) 1 v2) → ((0 : Int) ≤ (H18 (v0 : Int).toNat 1)) ∧ ∃ n20 : Nat, (K[((H18 (v0 : Int).toNat 1) : Int).toNat]? = some (24, n20)) ∧ ((0 : Int) ≤ (H18 (v0 : Int).toNat 0)) ∧ (((H18 (v0 : Int).toNat 0) : Int) < n20) ∧ ((0 : Int) ≤ (H18 ((H18 (v0 : Int).toNat 1) : Int).toNat ((H18 (v0 : Int).toNat 0) : Int).toNat)) ∧ (K[((H18 ((H18 (v0 : Int).toNat 1) : Int).toNat ((H18 (v0 : Int).toNat 0) : Int).toNat) : Int).toNat]? = some (7, 5)) ∧ ∀ H26 : Mem, H26 = upA H18 ((H18 ((H18 (v0 : Int).toNat 1) : Int).toNat ((H18 (v0 : Int).toNat 0) : Int).toNat) : Int).toNat (up1 (H18 ((H18 ((H18 (v0 : Int).toNat 1) : Int).toNat ((H18 (v0 : Int).toNat 0) : Int).toNat) : Int).toNat) 2 0) → (inI ((H26 (v0 : Int).toNat 0) + 1)) ∧ ∀ H28 : Mem, H28 = upA H26 (v0 : Int).toNat (up1 (H26 (v0 : Int).toNat) 0 ((H26 (v0 : Int).toNat 0) + 1)) → (inI ((H28 (v0 : Int).toNat 0) - 1)) ∧ q ((H28 (v0 : Int).toNat 0) - 1) H28) : FX0_addSpan_0 d K H q (v0) (v1) (v2) := by
  unfold FX0_addSpan_0
  refine r_aload_n 0 dX0_addSpan_0 rfl rfl ?_
  obtain ⟨h1, h⟩ := h
  obtain ⟨h2, h⟩ := h
  refine r_getf cls0 1 dX0_addSpan_1 (by decide) fl_RX0_17 rfl h1 h2 ?_
  refine r_aload_n 0 dX0_addSpan_4 rfl rfl ?_
  refine r_getf cls0 0 dX0_addSpan_5 (by decide) fl_RX0_9 rfl h1 h2 ?_
  obtain ⟨h3, h⟩ := h
  obtain ⟨n4, h⟩ := h
  obtain ⟨h5, h⟩ := h
  obtain ⟨h6, h⟩ := h
  obtain ⟨h7, h⟩ := h
  refine r_aald 24 n4 (by decide) dX0_addSpan_8 h3 h5 h6 h7 ?_
  refine r_iload_n 1 dX0_addSpan_9 rfl rfl ?_
  obtain ⟨h8, h⟩ := h
  obtain ⟨h9, h⟩ := h
  refine r_putf cls7 0 dX0_addSpan_10 (by decide) rfl fl_RX0_65 rfl h8 h9 (fun o => o) ?_
  replace h := h _ rfl
  generalize upA H ((H ((H (v0 : Int).toNat 1) : Int).toNat ((H (v0 : Int).toNat 0) : Int).toNat) : Int).toNat (up1 (H ((H ((H (v0 : Int).toNat 1) : Int).toNat ((H (v0 : Int).toNat 0) : Int).toNat) : Int).toNat) 0 v1) = H10 at h ⊢
  refine r_aload_n 0 dX0_addSpan_13 rfl rfl ?_
  refine r_getf cls0 1 dX0_addSpan_14 (by decide) fl_RX0_17 rfl h1 h2 ?_
  refine r_aload_n 0 dX0_addSpan_17 rfl rfl ?_
  refine r_getf cls0 0 dX0_addSpan_18 (by decide) fl_RX0_9 rfl h1 h2 ?_
  obtain ⟨h11, h⟩ := h
  obtain ⟨n12, h⟩ := h
  obtain ⟨h13, h⟩ := h
  obtain ⟨h14, h⟩ := h
  obtain ⟨h15, h⟩ := h
  refine r_aald 24 n12 (by decide) dX0_addSpan_21 h11 h13 h14 h15 ?_
  refine r_iload_n 2 dX0_addSpan_22 rfl rfl ?_
  obtain ⟨h16, h⟩ := h
  obtain ⟨h17, h⟩ := h
  refine r_putf cls7 1 dX0_addSpan_23 (by decide) rfl fl_RX0_68 rfl h16 h17 (fun o => o) ?_
  replace h := h _ rfl
  generalize upA H10 ((H10 ((H10 (v0 : Int).toNat 1) : Int).toNat ((H10 (v0 : Int).toNat 0) : Int).toNat) : Int).toNat (up1 (H10 ((H10 ((H10 (v0 : Int).toNat 1) : Int).toNat ((H10 (v0 : Int).toNat 0) : Int).toNat) : Int).toNat) 1 v2) = H18 at h ⊢
  refine r_aload_n 0 dX0_addSpan_26 rfl rfl ?_
  refine r_getf cls0 1 dX0_addSpan_27 (by decide) fl_RX0_17 rfl h1 h2 ?_
  refine r_aload_n 0 dX0_addSpan_30 rfl rfl ?_
  refine r_getf cls0 0 dX0_addSpan_31 (by decide) fl_RX0_9 rfl h1 h2 ?_
  obtain ⟨h19, h⟩ := h
  obtain ⟨n20, h⟩ := h
  obtain ⟨h21, h⟩ := h
  obtain ⟨h22, h⟩ := h
  obtain ⟨h23, h⟩ := h
  refine r_aald 24 n20 (by decide) dX0_addSpan_34 h19 h21 h22 h23 ?_
  refine r_iconst dX0_addSpan_35 (by decide) (by decide) ?_
  obtain ⟨h24, h⟩ := h
  obtain ⟨h25, h⟩ := h
  refine r_putf cls7 2 dX0_addSpan_36 (by decide) rfl fl_RX0_71 rfl h24 h25 (fun o => o) ?_
  replace h := h _ rfl
  generalize upA H18 ((H18 ((H18 (v0 : Int).toNat 1) : Int).toNat ((H18 (v0 : Int).toNat 0) : Int).toNat) : Int).toNat (up1 (H18 ((H18 ((H18 (v0 : Int).toNat 1) : Int).toNat ((H18 (v0 : Int).toNat 0) : Int).toNat) : Int).toNat) 2 0) = H26 at h ⊢
  refine r_aload_n 0 dX0_addSpan_39 rfl rfl ?_
  refine r_dup dX0_addSpan_40 (show (2 : Nat) ≠ 1 by decide) ?_
  refine r_getf cls0 0 dX0_addSpan_41 (by decide) fl_RX0_9 rfl h1 h2 ?_
  refine r_iconst dX0_addSpan_44 (by decide) (by decide) ?_
  obtain ⟨h27, h⟩ := h
  refine r_iadd dX0_addSpan_45 h27 ?_
  refine r_putf cls0 0 dX0_addSpan_46 (by decide) rfl fl_RX0_9 rfl h1 h2 (fun o => o) ?_
  replace h := h _ rfl
  generalize upA H26 (v0 : Int).toNat (up1 (H26 (v0 : Int).toNat) 0 ((H26 (v0 : Int).toNat 0) + 1)) = H28 at h ⊢
  refine r_aload_n 0 dX0_addSpan_49 rfl rfl ?_
  refine r_getf cls0 0 dX0_addSpan_50 (by decide) fl_RX0_9 rfl h1 h2 ?_
  refine r_iconst dX0_addSpan_53 (by decide) (by decide) ?_
  obtain ⟨h29, h⟩ := h
  refine r_isub dX0_addSpan_54 h29 ?_
  exact r_iret dX0_addSpan_55 rfl ⟨rfl, _, rfl, h⟩
set_option maxHeartbeats 4000000 in
set_option maxRecDepth 20000 in
theorem eX0_addSpan {d : Nat} {K : Shp} {H : Mem} {q : Int → Mem → Prop} {v0 v1 v2 : Int} (h : inI v1 → inI v2 → Rng K H → FX0_addSpan_0 d K H q v0 v1 v2) : Ci mX0_addSpan d [(2, v0), (0, v1), (0, v2)] K H q := Call.of rfl (Nat.le_of_ble_eq_true rfl) (fun o r => h (o (0, v1) (by simp)) (o (0, v2) (by simp)) r)
def FX0_reckonLeast_0 (d : Nat) (K : Shp) (H : Mem) (q : Int → Mem → Prop) (v0 : Int) (v1 : Int) : Prop := Fr mX0_reckonLeast (d + 1) 0 0 none 0 [(0, (2, v0)), (1, (2, v1))] [] K H (qi K q)
def FX0_reckonLeast_4 (d : Nat) (K : Shp) (H : Mem) (q : Int → Mem → Prop) (v0 : Int) (v1 : Int) (v2 : Int) (v3 : Int) : Prop := Fr mX0_reckonLeast (d + 1) 0 0 none 4 [(0, (2, v0)), (1, (2, v1)), (2, (0, v2)), (3, (0, v3))] [] K H (qi K q)
def FX0_reckonLeast_15 (d : Nat) (K : Shp) (H : Mem) (q : Int → Mem → Prop) (v0 : Int) (v1 : Int) (v2 : Int) (v3 : Int) (v4 : Int) : Prop := Fr mX0_reckonLeast (d + 1) 0 0 none 15 [(0, (2, v0)), (1, (2, v1)), (2, (0, v2)), (3, (0, v3)), (4, (0, v4))] [] K H (qi K q)
set_option maxHeartbeats 4000000 in
set_option maxRecDepth 20000 in
theorem bX0_reckonLeast_0 {d : Nat} {K : Shp} {H : Mem} {q : Int → Mem → Prop} {v0 v1 : Int} (h : FX0_reckonLeast_4 d K H q (v0) (v1) (0) (0)) : FX0_reckonLeast_0 d K H q (v0) (v1) := by
  unfold FX0_reckonLeast_0
  refine r_iconst dX0_reckonLeast_0 (by decide) (by decide) ?_
  refine r_istore_n dX0_reckonLeast_1 rfl (by decide) rfl ?_
  refine r_iconst dX0_reckonLeast_2 (by decide) (by decide) ?_
  refine r_istore_n dX0_reckonLeast_3 rfl (by decide) rfl ?_
  refine Fr.fewer [2, 3, 1, 0] rfl ?_
  exact h
set_option maxHeartbeats 4000000 in
set_option maxRecDepth 20000 in
theorem bX0_reckonLeast_4 {d : Nat} {K : Shp} {H : Mem} {q : Int → Mem → Prop} {v0 v1 v2 v3 : Int} (h : ((0 : Int) ≤ v0) ∧ (K[(v0 : Int).toNat]? = some (0, 12)) ∧ ((¬ (v3 : Int) < (H (v0 : Int).toNat 0) → ((v2 : Int) = 0 ∨ (v2 : Int) = 1) ∧ q v2 H) ∧ ((v3 : Int) < (H (v0 : Int).toNat 0) → FX0_reckonLeast_15 d K H q (v0) (v1) (v2) (v3) (0)))) : FX0_reckonLeast_4 d K H q (v0) (v1) (v2) (v3) := by
  unfold FX0_reckonLeast_4
  refine r_iload_n 3 dX0_reckonLeast_4 rfl rfl ?_
  refine r_aload_n 0 dX0_reckonLeast_5 rfl rfl ?_
  obtain ⟨h1, h⟩ := h
  obtain ⟨h2, h⟩ := h
  refine r_getf cls0 0 dX0_reckonLeast_6 (by decide) fl_RX0_9 rfl h1 h2 ?_
  refine r_icmp_ge (tgt := 91) dX0_reckonLeast_9 (by decide) (fun c3 => ?_) (fun c3 => ?_)
  · replace h := h.1 c3
    refine r_iload_n 2 dX0_reckonLeast_91 rfl rfl ?_
    obtain ⟨h4, h⟩ := h
    exact r_zret dX0_reckonLeast_92 rfl h4 ⟨rfl, _, rfl, h⟩
  · replace h := h.2 c3
    refine r_iconst dX0_reckonLeast_12 (by decide) (by decide) ?_
    refine r_istore dX0_reckonLeast_13 (by decide) rfl ?_
    refine Fr.fewer [1, 2, 3, 4, 0] rfl ?_
    exact h
set_option maxHeartbeats 4000000 in
set_option maxRecDepth 20000 in
theorem bX0_reckonLeast_15 {d : Nat} {K : Shp} {H : Mem} {q : Int → Mem → Prop} {v0 v1 v2 v3 v4 : Int} (h : ((0 : Int) ≤ v0) ∧ (K[(v0 : Int).toNat]? = some (0, 12)) ∧ ((0 : Int) ≤ (H (v0 : Int).toNat 1)) ∧ ∃ n4 : Nat, (K[((H (v0 : Int).toNat 1) : Int).toNat]? = some (24, n4)) ∧ ((0 : Int) ≤ v3) ∧ ((v3 : Int) < n4) ∧ ((0 : Int) ≤ (H ((H (v0 : Int).toNat 1) : Int).toNat (v3 : Int).toNat)) ∧ (K[((H ((H (v0 : Int).toNat 1) : Int).toNat (v3 : Int).toNat) : Int).toNat]? = some (7, 5)) ∧ ((¬ (v4 : Int) < (H ((H ((H (v0 : Int).toNat 1) : Int).toNat (v3 : Int).toNat) : Int).toNat 2) → (inI (v3 + 1)) ∧ FX0_reckonLeast_4 d K H q (v0) (v1) (v2) ((v3 + 1))) ∧ ((v4 : Int) < (H ((H ((H (v0 : Int).toNat 1) : Int).toNat (v3 : Int).toNat) : Int).toNat 2) → Cv mX0_reckon d [(2, v0), (2, v1), (0, v3), (0, v4)] K H (fun H12 => (((v2 : Int) = 0 → ((0 : Int) ≤ (H12 (v0 : Int).toNat 4)) ∧ (K[((H12 (v0 : Int).toNat 4) : Int).toNat]? = some (3, 5)) ∧ Cv mX3_copy d [(2, (H12 (v0 : Int).toNat 4)), (2, (H12 (v0 : Int).toNat 3))] K H12 (fun H17 => ∀ H19 : Mem, H19 = upA H17 (v0 : Int).toNat (up1 (H17 (v0 : Int).toNat) 5 v3) → ∀ H20 : Mem, H20 = upA H19 (v0 : Int).toNat (up1 (H19 (v0 : Int).toNat) 6 v4) → (inI (v4 + 1)) ∧ FX0_reckonLeast_15 d K H20 q (v0) (v1) (1) (v3) ((v4 + 1)))) ∧ (¬ (v2 : Int) = 0 → ((0 : Int) ≤ (H12 (v0 : Int).toNat 3)) ∧ (K[((H12 (v0 : Int).toNat 3) : Int).toNat]? = some (3, 5)) ∧ Ci mX3_isUnder d [(2, (H12 (v0 : Int).toNat 3)), (2, (H12 (v0 : Int).toNat 4))] K H12 (fun x25 H24 => (((x25 : Int) = 0 → (inI (v4 + 1)) ∧ FX0_reckonLeast_15 d K H24 q (v0) (v1) (v2) (v3) ((v4 + 1))) ∧ (¬ (x25 : Int) = 0 → ((0 : Int) ≤ (H24 (v0 : Int).toNat 4)) ∧ (K[((H24 (v0 : Int).toNat 4) : Int).toNat]? = some (3, 5)) ∧ Cv mX3_copy d [(2, (H24 (v0 : Int).toNat 4)), (2, (H24 (v0 : Int).toNat 3))] K H24 (fun H30 => ∀ H32 : Mem, H32 = upA H30 (v0 : Int).toNat (up1 (H30 (v0 : Int).toNat) 5 v3) → ∀ H33 : Mem, H33 = upA H32 (v0 : Int).toNat (up1 (H32 (v0 : Int).toNat) 6 v4) → (inI (v4 + 1)) ∧ FX0_reckonLeast_15 d K H33 q (v0) (v1) (1) (v3) ((v4 + 1)))))))))))) : FX0_reckonLeast_15 d K H q (v0) (v1) (v2) (v3) (v4) := by
  unfold FX0_reckonLeast_15
  refine r_iload 4 dX0_reckonLeast_15 rfl ?_
  refine r_aload_n 0 dX0_reckonLeast_17 rfl rfl ?_
  obtain ⟨h1, h⟩ := h
  obtain ⟨h2, h⟩ := h
  refine r_getf cls0 1 dX0_reckonLeast_18 (by decide) fl_RX0_17 rfl h1 h2 ?_
  refine r_iload_n 3 dX0_reckonLeast_21 rfl rfl ?_
  obtain ⟨h3, h⟩ := h
  obtain ⟨n4, h⟩ := h
  obtain ⟨h5, h⟩ := h
  obtain ⟨h6, h⟩ := h
  obtain ⟨h7, h⟩ := h
  refine r_aald 24 n4 (by decide) dX0_reckonLeast_22 h3 h5 h6 h7 ?_
  obtain ⟨h8, h⟩ := h
  obtain ⟨h9, h⟩ := h
  refine r_getf cls7 2 dX0_reckonLeast_23 (by decide) fl_RX0_71 rfl h8 h9 ?_
  refine r_icmp_ge (tgt := 85) dX0_reckonLeast_26 (by decide) (fun c10 => ?_) (fun c10 => ?_)
  · replace h := h.1 c10
    obtain ⟨h11, h⟩ := h
    refine r_iinc 3 dX0_reckonLeast_85 (by decide) rfl h11 rfl ?_
    refine r_goto (tgt := 4) dX0_reckonLeast_88 (by decide) ?_
    refine Fr.fewer [1, 2, 3, 0] rfl ?_
    exact h
  · replace h := h.2 c10
    refine r_aload_n 0 dX0_reckonLeast_29 rfl rfl ?_
    refine r_aload_n 1 dX0_reckonLeast_30 rfl rfl ?_
    refine r_iload_n 3 dX0_reckonLeast_31 rfl rfl ?_
    refine r_iload 4 dX0_reckonLeast_32 rfl ?_
    refine r_invV (M := mX0_reckonLeast) (As := [(2, v1), (0, v3), (0, v4)]) (st := []) (X := v0) (mc := 0) (ms := 0) (fc := 0) (fs := 0) h ok_X0_reckon cls0 im_X0_reckon se_X0_reckon ml_RX0_74 dX0_reckonLeast_34 rfl h1 h2 (Nat.le_of_ble_eq_true rfl) rfl ?_
    rintro r K1 H12 ⟨rfl, rfl, h⟩ -
    show Fr mX0_reckonLeast (d + 1) 0 0 none 37 [(0, (2, v0)), (1, (2, v1)), (2, (0, v2)), (3, (0, v3)), (4, (0, v4))] [] _ H12 _
    refine r_iload_n 2 dX0_reckonLeast_37 rfl rfl ?_
    refine r_if_eq (tgt := 55) dX0_reckonLeast_38 (by decide) (fun c14 => ?_) (fun c14 => ?_)
    · replace h := h.1 c14
      refine r_iconst dX0_reckonLeast_55 (by decide) (by decide) ?_
      refine r_istore_n dX0_reckonLeast_56 rfl (by decide) rfl ?_
      refine r_aload_n 1 dX0_reckonLeast_57 rfl rfl ?_
      refine r_getf cls0 4 dX0_reckonLeast_58 (by decide) fl_RX0_32 rfl h1 h2 ?_
      refine r_aload_n 1 dX0_reckonLeast_61 rfl rfl ?_
      refine r_getf cls0 3 dX0_reckonLeast_62 (by decide) fl_RX0_28 rfl h1 h2 ?_
      obtain ⟨h15, h⟩ := h
      obtain ⟨h16, h⟩ := h
      refine r_invV (M := mX0_reckonLeast) (As := [(2, (H12 (v0 : Int).toNat 3))]) (st := []) (X := (H12 (v0 : Int).toNat 4)) (mc := 0) (ms := 0) (fc := 0) (fs := 0) h ok_X3_copy cls3 im_X3_copy se_X3_copy ml_RX0_82 dX0_reckonLeast_65 rfl h15 h16 (Nat.le_of_ble_eq_true rfl) rfl ?_
      rintro r K1 H17 ⟨rfl, rfl, h⟩ -
      show Fr mX0_reckonLeast (d + 1) 0 0 none 68 [(2, (0, 1)), (0, (2, v0)), (1, (2, v1)), (3, (0, v3)), (4, (0, v4))] [] _ H17 _
      refine r_aload_n 1 dX0_reckonLeast_68 rfl rfl ?_
      refine r_iload_n 3 dX0_reckonLeast_69 rfl rfl ?_
      refine r_putf cls0 5 dX0_reckonLeast_70 (by decide) rfl fl_RX0_35 rfl h1 h2 (fun o => o) ?_
      replace h := h _ rfl
      generalize upA H17 (v0 : Int).toNat (up1 (H17 (v0 : Int).toNat) 5 v3) = H19 at h ⊢
      refine r_aload_n 1 dX0_reckonLeast_73 rfl rfl ?_
      refine r_iload 4 dX0_reckonLeast_74 rfl ?_
      refine r_putf cls0 6 dX0_reckonLeast_76 (by decide) rfl fl_RX0_38 rfl h1 h2 (fun o => o) ?_
      replace h := h _ rfl
      generalize upA H19 (v0 : Int).toNat (up1 (H19 (v0 : Int).toNat) 6 v4) = H20 at h ⊢
      obtain ⟨h21, h⟩ := h
      refine r_iinc 4 dX0_reckonLeast_79 (by decide) rfl h21 rfl ?_
      refine r_goto (tgt := 15) dX0_reckonLeast_82 (by decide) ?_
      refine Fr.fewer [2, 3, 1, 4, 0] rfl ?_
      exact h
    · replace h := h.2 c14
      refine r_aload_n 0 dX0_reckonLeast_41 rfl rfl ?_
      refine r_getf cls0 3 dX0_reckonLeast_42 (by decide) fl_RX0_28 rfl h1 h2 ?_
      refine r_aload_n 0 dX0_reckonLeast_45 rfl rfl ?_
      refine r_getf cls0 4 dX0_reckonLeast_46 (by decide) fl_RX0_32 rfl h1 h2 ?_
      obtain ⟨h22, h⟩ := h
      obtain ⟨h23, h⟩ := h
      refine r_invV (M := mX0_reckonLeast) (As := [(2, (H12 (v0 : Int).toNat 4))]) (st := []) (X := (H12 (v0 : Int).toNat 3)) (mc := 0) (ms := 0) (fc := 0) (fs := 0) h ok_X3_isUnder cls3 im_X3_isUnder se_X3_isUnder ml_RX0_78 dX0_reckonLeast_49 rfl h22 h23 (Nat.le_of_ble_eq_true rfl) rfl ?_
      rintro r K1 H24 ⟨rfl, x25, rfl, h⟩ -
      show Fr mX0_reckonLeast (d + 1) 0 0 none 52 [(0, (2, v0)), (1, (2, v1)), (2, (0, v2)), (3, (0, v3)), (4, (0, v4))] [(0, x25)] _ H24 _
      refine r_if_eq (tgt := 79) dX0_reckonLeast_52 (by decide) (fun c26 => ?_) (fun c26 => ?_)
      · replace h := h.1 c26
        obtain ⟨h27, h⟩ := h
        refine r_iinc 4 dX0_reckonLeast_79 (by decide) rfl h27 rfl ?_
        refine r_goto (tgt := 15) dX0_reckonLeast_82 (by decide) ?_
        refine Fr.fewer [1, 2, 3, 4, 0] rfl ?_
        exact h
      · replace h := h.2 c26
        refine r_iconst dX0_reckonLeast_55 (by decide) (by decide) ?_
        refine r_istore_n dX0_reckonLeast_56 rfl (by decide) rfl ?_
        refine r_aload_n 1 dX0_reckonLeast_57 rfl rfl ?_
        refine r_getf cls0 4 dX0_reckonLeast_58 (by decide) fl_RX0_32 rfl h1 h2 ?_
        refine r_aload_n 1 dX0_reckonLeast_61 rfl rfl ?_
        refine r_getf cls0 3 dX0_reckonLeast_62 (by decide) fl_RX0_28 rfl h1 h2 ?_
        obtain ⟨h28, h⟩ := h
        obtain ⟨h29, h⟩ := h
        refine r_invV (M := mX0_reckonLeast) (As := [(2, (H24 (v0 : Int).toNat 3))]) (st := []) (X := (H24 (v0 : Int).toNat 4)) (mc := 0) (ms := 0) (fc := 0) (fs := 0) h ok_X3_copy cls3 im_X3_copy se_X3_copy ml_RX0_82 dX0_reckonLeast_65 rfl h28 h29 (Nat.le_of_ble_eq_true rfl) rfl ?_
        rintro r K1 H30 ⟨rfl, rfl, h⟩ -
        show Fr mX0_reckonLeast (d + 1) 0 0 none 68 [(2, (0, 1)), (0, (2, v0)), (1, (2, v1)), (3, (0, v3)), (4, (0, v4))] [] _ H30 _
        refine r_aload_n 1 dX0_reckonLeast_68 rfl rfl ?_
        refine r_iload_n 3 dX0_reckonLeast_69 rfl rfl ?_
        refine r_putf cls0 5 dX0_reckonLeast_70 (by decide) rfl fl_RX0_35 rfl h1 h2 (fun o => o) ?_
        replace h := h _ rfl
        generalize upA H30 (v0 : Int).toNat (up1 (H30 (v0 : Int).toNat) 5 v3) = H32 at h ⊢
        refine r_aload_n 1 dX0_reckonLeast_73 rfl rfl ?_
        refine r_iload 4 dX0_reckonLeast_74 rfl ?_
        refine r_putf cls0 6 dX0_reckonLeast_76 (by decide) rfl fl_RX0_38 rfl h1 h2 (fun o => o) ?_
        replace h := h _ rfl
        generalize upA H32 (v0 : Int).toNat (up1 (H32 (v0 : Int).toNat) 6 v4) = H33 at h ⊢
        obtain ⟨h34, h⟩ := h
        refine r_iinc 4 dX0_reckonLeast_79 (by decide) rfl h34 rfl ?_
        refine r_goto (tgt := 15) dX0_reckonLeast_82 (by decide) ?_
        refine Fr.fewer [2, 3, 1, 4, 0] rfl ?_
        exact h
set_option maxHeartbeats 4000000 in
set_option maxRecDepth 20000 in
theorem eX0_reckonLeast {d : Nat} {K : Shp} {H : Mem} {q : Int → Mem → Prop} {v0 v1 : Int} (h : Rng K H → FX0_reckonLeast_0 d K H q v0 v1) : Ci mX0_reckonLeast (d + 1) [(2, v0), (2, v1)] K H q := Call.of rfl (Nat.le_of_ble_eq_true rfl) (fun o r => h  r)
def FX0_reckon_0 (d : Nat) (K : Shp) (H : Mem) (q : Mem → Prop) (v0 : Int) (v1 : Int) (v2 : Int) (v3 : Int) : Prop := Fr mX0_reckon (d + 1) 0 0 none 0 [(0, (2, v0)), (1, (2, v1)), (2, (0, v2)), (3, (0, v3))] [] K H (qv K q)
set_option maxHeartbeats 4000000 in
set_option maxRecDepth 20000 in
theorem bX0_reckon_0 {d : Nat} {K : Shp} {H : Mem} {q : Mem → Prop} {v0 v1 v2 v3 : Int} (h : ((0 : Int) ≤ v0) ∧ (K[(v0 : Int).toNat]? = some (0, 12)) ∧ ((0 : Int) ≤ (H (v0 : Int).toNat 1)) ∧ ∃ n4 : Nat, (K[((H (v0 : Int).toNat 1) : Int).toNat]? = some (24, n4)) ∧ ((0 : Int) ≤ v2) ∧ ((v2 : Int) < n4) ∧ ((0 : Int) ≤ (H ((H (v0 : Int).toNat 1) : Int).toNat (v2 : Int).toNat)) ∧ (K[((H ((H (v0 : Int).toNat 1) : Int).toNat (v2 : Int).toNat) : Int).toNat]? = some (7, 5)) ∧ ((0 : Int) ≤ (H ((H ((H (v0 : Int).toNat 1) : Int).toNat (v2 : Int).toNat) : Int).toNat 3)) ∧ ∃ n11 : Nat, (K[((H ((H ((H (v0 : Int).toNat 1) : Int).toNat (v2 : Int).toNat) : Int).toNat 3) : Int).toNat]? = some (20, n11)) ∧ ((0 : Int) ≤ v3) ∧ ((v3 : Int) < n11) ∧ ((0 : Int) ≤ v1) ∧ ∃ n16 : Nat, (K[(v1 : Int).toNat]? = some (23, n16)) ∧ ((0 : Int) ≤ (H ((H ((H (v0 : Int).toNat 1) : Int).toNat (v2 : Int).toNat) : Int).toNat 1)) ∧ (((H ((H ((H (v0 : Int).toNat 1) : Int).toNat (v2 : Int).toNat) : Int).toNat 1) : Int) < n16) ∧ Cv mX0_putSag d [(2, v0), (2, (H (v1 : Int).toNat ((H ((H ((H (v0 : Int).toNat 1) : Int).toNat (v2 : Int).toNat) : Int).toNat 1) : Int).toNat)), (2, (H (v0 : Int).toNat 8))] K H (fun H20 => Cv mX0_putSupport d [(2, v0), (2, v1), (0, v2), (2, (H20 (v0 : Int).toNat 9))] K H20 (fun H22 => (inI (v2 + 1)) ∧ Cv mX0_putSupport d [(2, v0), (2, v1), (0, (v2 + 1)), (2, (H22 (v0 : Int).toNat 10))] K H22 (fun H25 => ((0 : Int) ≤ (H25 (v0 : Int).toNat 8)) ∧ (K[((H25 (v0 : Int).toNat 8) : Int).toNat]? = some (5, 2)) ∧ Cv mX5_scale d [(2, (H25 (v0 : Int).toNat 8)), (1, (H25 ((H ((H (v0 : Int).toNat 1) : Int).toNat (v2 : Int).toNat) : Int).toNat 0))] K H25 (fun H29 => (inI ((H29 ((H ((H (v0 : Int).toNat 1) : Int).toNat (v2 : Int).toNat) : Int).toNat 0) - (H ((H ((H ((H (v0 : Int).toNat 1) : Int).toNat (v2 : Int).toNat) : Int).toNat 3) : Int).toNat (v3 : Int).toNat))) ∧ ((0 : Int) ≤ (H29 (v0 : Int).toNat 9)) ∧ (K[((H29 (v0 : Int).toNat 9) : Int).toNat]? = some (5, 2)) ∧ Cv mX5_scale d [(2, (H29 (v0 : Int).toNat 9)), (1, ((H29 ((H ((H (v0 : Int).toNat 1) : Int).toNat (v2 : Int).toNat) : Int).toNat 0) - (H ((H ((H ((H (v0 : Int).toNat 1) : Int).toNat (v2 : Int).toNat) : Int).toNat 3) : Int).toNat (v3 : Int).toNat)))] K H29 (fun H34 => ((0 : Int) ≤ (H34 (v0 : Int).toNat 10)) ∧ (K[((H34 (v0 : Int).toNat 10) : Int).toNat]? = some (5, 2)) ∧ Cv mX5_scale d [(2, (H34 (v0 : Int).toNat 10)), (1, (H ((H ((H ((H (v0 : Int).toNat 1) : Int).toNat (v2 : Int).toNat) : Int).toNat 3) : Int).toNat (v3 : Int).toNat))] K H34 (fun H38 => ((0 : Int) ≤ (H38 (v0 : Int).toNat 8)) ∧ (K[((H38 (v0 : Int).toNat 8) : Int).toNat]? = some (5, 2)) ∧ Cv mX5_plus d [(2, (H38 (v0 : Int).toNat 8)), (2, (H38 (v0 : Int).toNat 9))] K H38 (fun H42 => ((0 : Int) ≤ (H42 (v0 : Int).toNat 3)) ∧ (K[((H42 (v0 : Int).toNat 3) : Int).toNat]? = some (3, 5)) ∧ Cv mX3_putSum d [(2, (H42 (v0 : Int).toNat 3)), (2, (H42 (v0 : Int).toNat 8)), (2, (H42 (v0 : Int).toNat 10))] K H42 (fun H46 => Cl mX7_freeTimesLength d [(2, (H ((H (v0 : Int).toNat 1) : Int).toNat (v2 : Int).toNat)), (0, (H ((H ((H ((H (v0 : Int).toNat 1) : Int).toNat (v2 : Int).toNat) : Int).toNat 3) : Int).toNat (v3 : Int).toNat))] K H46 (fun x49 H48 => ((0 : Int) ≤ (H46 (v0 : Int).toNat 3)) ∧ (K[((H46 (v0 : Int).toNat 3) : Int).toNat]? = some (3, 5)) ∧ Cv mX3_divide d [(2, (H46 (v0 : Int).toNat 3)), (1, x49)] K H48 (fun H52 => q H52))))))))))) : FX0_reckon_0 d K H q (v0) (v1) (v2) (v3) := by
  unfold FX0_reckon_0
  refine r_aload_n 0 dX0_reckon_0 rfl rfl ?_
  obtain ⟨h1, h⟩ := h
  obtain ⟨h2, h⟩ := h
  refine r_getf cls0 1 dX0_reckon_1 (by decide) fl_RX0_17 rfl h1 h2 ?_
  refine r_iload_n 2 dX0_reckon_4 rfl rfl ?_
  obtain ⟨h3, h⟩ := h
  obtain ⟨n4, h⟩ := h
  obtain ⟨h5, h⟩ := h
  obtain ⟨h6, h⟩ := h
  obtain ⟨h7, h⟩ := h
  refine r_aald 24 n4 (by decide) dX0_reckon_5 h3 h5 h6 h7 ?_
  refine r_astore dX0_reckon_6 (by decide) rfl ?_
  refine r_aload 0 dX0_reckon_8 rfl ?_
  obtain ⟨h8, h⟩ := h
  obtain ⟨h9, h⟩ := h
  refine r_getf cls7 3 dX0_reckon_10 (by decide) fl_RX0_86 rfl h8 h9 ?_
  refine r_iload_n 4 dX0_reckon_13 rfl rfl ?_
  obtain ⟨h10, h⟩ := h
  obtain ⟨n11, h⟩ := h
  obtain ⟨h12, h⟩ := h
  obtain ⟨h13, h⟩ := h
  obtain ⟨h14, h⟩ := h
  refine r_iald n11 dX0_reckon_14 h10 h12 h13 h14 ?_
  refine r_istore dX0_reckon_15 (by decide) rfl ?_
  refine r_aload_n 2 dX0_reckon_17 rfl rfl ?_
  refine r_aload_n 3 dX0_reckon_18 rfl rfl ?_
  refine r_aload 1 dX0_reckon_19 rfl ?_
  refine r_getf cls7 1 dX0_reckon_21 (by decide) fl_RX0_68 rfl h8 h9 ?_
  obtain ⟨h15, h⟩ := h
  obtain ⟨n16, h⟩ := h
  obtain ⟨h17, h⟩ := h
  obtain ⟨h18, h⟩ := h
  obtain ⟨h19, h⟩ := h
  refine r_aald 23 n16 (by decide) dX0_reckon_24 h15 h17 h18 h19 ?_
  refine r_aload_n 2 dX0_reckon_25 rfl rfl ?_
  refine r_getf cls0 8 dX0_reckon_26 (by decide) fl_RX0_51 rfl h1 h2 ?_
  refine r_invV (M := mX0_reckon) (As := [(2, (H (v1 : Int).toNat ((H ((H ((H (v0 : Int).toNat 1) : Int).toNat (v2 : Int).toNat) : Int).toNat 1) : Int).toNat)), (2, (H (v0 : Int).toNat 8))]) (st := []) (X := v0) (mc := 0) (ms := 0) (fc := 0) (fs := 0) h ok_X0_putSag cls0 im_X0_putSag se_X0_putSag ml_RX0_90 dX0_reckon_29 rfl h1 h2 (Nat.le_of_ble_eq_true rfl) rfl ?_
  rintro r K1 H20 ⟨rfl, rfl, h⟩ -
  show Fr mX0_reckon (d + 1) 0 0 none 32 [(5, (0, (H ((H ((H ((H (v0 : Int).toNat 1) : Int).toNat (v2 : Int).toNat) : Int).toNat 3) : Int).toNat (v3 : Int).toNat))), (4, (2, (H ((H (v0 : Int).toNat 1) : Int).toNat (v2 : Int).toNat))), (0, (2, v0)), (1, (2, v1)), (2, (0, v2)), (3, (0, v3))] [] _ H20 _
  refine r_aload_n 2 dX0_reckon_32 rfl rfl ?_
  refine r_aload_n 3 dX0_reckon_33 rfl rfl ?_
  refine r_iload_n 4 dX0_reckon_34 rfl rfl ?_
  refine r_aload_n 2 dX0_reckon_35 rfl rfl ?_
  refine r_getf cls0 9 dX0_reckon_36 (by decide) fl_RX0_55 rfl h1 h2 ?_
  refine r_invV (M := mX0_reckon) (As := [(2, v1), (0, v2), (2, (H20 (v0 : Int).toNat 9))]) (st := []) (X := v0) (mc := 0) (ms := 0) (fc := 0) (fs := 0) h ok_X0_putSupport cls0 im_X0_putSupport se_X0_putSupport ml_RX0_94 dX0_reckon_39 rfl h1 h2 (Nat.le_of_ble_eq_true rfl) rfl ?_
  rintro r K1 H22 ⟨rfl, rfl, h⟩ -
  show Fr mX0_reckon (d + 1) 0 0 none 42 [(5, (0, (H ((H ((H ((H (v0 : Int).toNat 1) : Int).toNat (v2 : Int).toNat) : Int).toNat 3) : Int).toNat (v3 : Int).toNat))), (4, (2, (H ((H (v0 : Int).toNat 1) : Int).toNat (v2 : Int).toNat))), (0, (2, v0)), (1, (2, v1)), (2, (0, v2)), (3, (0, v3))] [] _ H22 _
  refine r_aload_n 2 dX0_reckon_42 rfl rfl ?_
  refine r_aload_n 3 dX0_reckon_43 rfl rfl ?_
  refine r_iload_n 4 dX0_reckon_44 rfl rfl ?_
  refine r_iconst dX0_reckon_45 (by decide) (by decide) ?_
  obtain ⟨h24, h⟩ := h
  refine r_iadd dX0_reckon_46 h24 ?_
  refine r_aload_n 2 dX0_reckon_47 rfl rfl ?_
  refine r_getf cls0 10 dX0_reckon_48 (by decide) fl_RX0_58 rfl h1 h2 ?_
  refine r_invV (M := mX0_reckon) (As := [(2, v1), (0, (v2 + 1)), (2, (H22 (v0 : Int).toNat 10))]) (st := []) (X := v0) (mc := 0) (ms := 0) (fc := 0) (fs := 0) h ok_X0_putSupport cls0 im_X0_putSupport se_X0_putSupport ml_RX0_94 dX0_reckon_51 rfl h1 h2 (Nat.le_of_ble_eq_true rfl) rfl ?_
  rintro r K1 H25 ⟨rfl, rfl, h⟩ -
  show Fr mX0_reckon (d + 1) 0 0 none 54 [(5, (0, (H ((H ((H ((H (v0 : Int).toNat 1) : Int).toNat (v2 : Int).toNat) : Int).toNat 3) : Int).toNat (v3 : Int).toNat))), (4, (2, (H ((H (v0 : Int).toNat 1) : Int).toNat (v2 : Int).toNat))), (0, (2, v0)), (1, (2, v1)), (2, (0, v2)), (3, (0, v3))] [] _ H25 _
  refine r_aload_n 2 dX0_reckon_54 rfl rfl ?_
  refine r_getf cls0 8 dX0_reckon_55 (by decide) fl_RX0_51 rfl h1 h2 ?_
  refine r_aload 1 dX0_reckon_58 rfl ?_
  refine r_getf cls7 0 dX0_reckon_60 (by decide) fl_RX0_65 rfl h8 h9 ?_
  refine r_i2l dX0_reckon_63 ?_
  obtain ⟨h27, h⟩ := h
  obtain ⟨h28, h⟩ := h
  refine r_invV (M := mX0_reckon) (As := [(1, (H25 ((H ((H (v0 : Int).toNat 1) : Int).toNat (v2 : Int).toNat) : Int).toNat 0))]) (st := []) (X := (H25 (v0 : Int).toNat 8)) (mc := 0) (ms := 0) (fc := 0) (fs := 0) h ok_X5_scale cls5 im_X5_scale se_X5_scale ml_RX0_98 dX0_reckon_64 rfl h27 h28 (Nat.le_of_ble_eq_true rfl) rfl ?_
  rintro r K1 H29 ⟨rfl, rfl, h⟩ -
  show Fr mX0_reckon (d + 1) 0 0 none 67 [(5, (0, (H ((H ((H ((H (v0 : Int).toNat 1) : Int).toNat (v2 : Int).toNat) : Int).toNat 3) : Int).toNat (v3 : Int).toNat))), (4, (2, (H ((H (v0 : Int).toNat 1) : Int).toNat (v2 : Int).toNat))), (0, (2, v0)), (1, (2, v1)), (2, (0, v2)), (3, (0, v3))] [] _ H29 _
  refine r_aload_n 2 dX0_reckon_67 rfl rfl ?_
  refine r_getf cls0 9 dX0_reckon_68 (by decide) fl_RX0_55 rfl h1 h2 ?_
  refine r_aload 1 dX0_reckon_71 rfl ?_
  refine r_getf cls7 0 dX0_reckon_73 (by decide) fl_RX0_65 rfl h8 h9 ?_
  refine r_iload 0 dX0_reckon_76 rfl ?_
  obtain ⟨h31, h⟩ := h
  refine r_isub dX0_reckon_78 h31 ?_
  refine r_i2l dX0_reckon_79 ?_
  obtain ⟨h32, h⟩ := h
  obtain ⟨h33, h⟩ := h
  refine r_invV (M := mX0_reckon) (As := [(1, ((H29 ((H ((H (v0 : Int).toNat 1) : Int).toNat (v2 : Int).toNat) : Int).toNat 0) - (H ((H ((H ((H (v0 : Int).toNat 1) : Int).toNat (v2 : Int).toNat) : Int).toNat 3) : Int).toNat (v3 : Int).toNat)))]) (st := []) (X := (H29 (v0 : Int).toNat 9)) (mc := 0) (ms := 0) (fc := 0) (fs := 0) h ok_X5_scale cls5 im_X5_scale se_X5_scale ml_RX0_98 dX0_reckon_80 rfl h32 h33 (Nat.le_of_ble_eq_true rfl) rfl ?_
  rintro r K1 H34 ⟨rfl, rfl, h⟩ -
  show Fr mX0_reckon (d + 1) 0 0 none 83 [(5, (0, (H ((H ((H ((H (v0 : Int).toNat 1) : Int).toNat (v2 : Int).toNat) : Int).toNat 3) : Int).toNat (v3 : Int).toNat))), (4, (2, (H ((H (v0 : Int).toNat 1) : Int).toNat (v2 : Int).toNat))), (0, (2, v0)), (1, (2, v1)), (2, (0, v2)), (3, (0, v3))] [] _ H34 _
  refine r_aload_n 2 dX0_reckon_83 rfl rfl ?_
  refine r_getf cls0 10 dX0_reckon_84 (by decide) fl_RX0_58 rfl h1 h2 ?_
  refine r_iload 0 dX0_reckon_87 rfl ?_
  refine r_i2l dX0_reckon_89 ?_
  obtain ⟨h36, h⟩ := h
  obtain ⟨h37, h⟩ := h
  refine r_invV (M := mX0_reckon) (As := [(1, (H ((H ((H ((H (v0 : Int).toNat 1) : Int).toNat (v2 : Int).toNat) : Int).toNat 3) : Int).toNat (v3 : Int).toNat))]) (st := []) (X := (H34 (v0 : Int).toNat 10)) (mc := 0) (ms := 0) (fc := 0) (fs := 0) h ok_X5_scale cls5 im_X5_scale se_X5_scale ml_RX0_98 dX0_reckon_90 rfl h36 h37 (Nat.le_of_ble_eq_true rfl) rfl ?_
  rintro r K1 H38 ⟨rfl, rfl, h⟩ -
  show Fr mX0_reckon (d + 1) 0 0 none 93 [(5, (0, (H ((H ((H ((H (v0 : Int).toNat 1) : Int).toNat (v2 : Int).toNat) : Int).toNat 3) : Int).toNat (v3 : Int).toNat))), (4, (2, (H ((H (v0 : Int).toNat 1) : Int).toNat (v2 : Int).toNat))), (0, (2, v0)), (1, (2, v1)), (2, (0, v2)), (3, (0, v3))] [] _ H38 _
  refine r_aload_n 2 dX0_reckon_93 rfl rfl ?_
  refine r_getf cls0 8 dX0_reckon_94 (by decide) fl_RX0_51 rfl h1 h2 ?_
  refine r_aload_n 2 dX0_reckon_97 rfl rfl ?_
  refine r_getf cls0 9 dX0_reckon_98 (by decide) fl_RX0_55 rfl h1 h2 ?_
  obtain ⟨h40, h⟩ := h
  obtain ⟨h41, h⟩ := h
  refine r_invV (M := mX0_reckon) (As := [(2, (H38 (v0 : Int).toNat 9))]) (st := []) (X := (H38 (v0 : Int).toNat 8)) (mc := 0) (ms := 0) (fc := 0) (fs := 0) h ok_X5_plus cls5 im_X5_plus se_X5_plus ml_RX0_102 dX0_reckon_101 rfl h40 h41 (Nat.le_of_ble_eq_true rfl) rfl ?_
  rintro r K1 H42 ⟨rfl, rfl, h⟩ -
  show Fr mX0_reckon (d + 1) 0 0 none 104 [(5, (0, (H ((H ((H ((H (v0 : Int).toNat 1) : Int).toNat (v2 : Int).toNat) : Int).toNat 3) : Int).toNat (v3 : Int).toNat))), (4, (2, (H ((H (v0 : Int).toNat 1) : Int).toNat (v2 : Int).toNat))), (0, (2, v0)), (1, (2, v1)), (2, (0, v2)), (3, (0, v3))] [] _ H42 _
  refine r_aload_n 2 dX0_reckon_104 rfl rfl ?_
  refine r_getf cls0 3 dX0_reckon_105 (by decide) fl_RX0_28 rfl h1 h2 ?_
  refine r_aload_n 2 dX0_reckon_108 rfl rfl ?_
  refine r_getf cls0 8 dX0_reckon_109 (by decide) fl_RX0_51 rfl h1 h2 ?_
  refine r_aload_n 2 dX0_reckon_112 rfl rfl ?_
  refine r_getf cls0 10 dX0_reckon_113 (by decide) fl_RX0_58 rfl h1 h2 ?_
  obtain ⟨h44, h⟩ := h
  obtain ⟨h45, h⟩ := h
  refine r_invV (M := mX0_reckon) (As := [(2, (H42 (v0 : Int).toNat 8)), (2, (H42 (v0 : Int).toNat 10))]) (st := []) (X := (H42 (v0 : Int).toNat 3)) (mc := 0) (ms := 0) (fc := 0) (fs := 0) h ok_X3_putSum cls3 im_X3_putSum se_X3_putSum ml_RX0_106 dX0_reckon_116 rfl h44 h45 (Nat.le_of_ble_eq_true rfl) rfl ?_
  rintro r K1 H46 ⟨rfl, rfl, h⟩ -
  show Fr mX0_reckon (d + 1) 0 0 none 119 [(5, (0, (H ((H ((H ((H (v0 : Int).toNat 1) : Int).toNat (v2 : Int).toNat) : Int).toNat 3) : Int).toNat (v3 : Int).toNat))), (4, (2, (H ((H (v0 : Int).toNat 1) : Int).toNat (v2 : Int).toNat))), (0, (2, v0)), (1, (2, v1)), (2, (0, v2)), (3, (0, v3))] [] _ H46 _
  refine r_aload_n 2 dX0_reckon_119 rfl rfl ?_
  refine r_getf cls0 3 dX0_reckon_120 (by decide) fl_RX0_28 rfl h1 h2 ?_
  refine r_aload 1 dX0_reckon_123 rfl ?_
  refine r_iload 0 dX0_reckon_125 rfl ?_
  refine r_invV (M := mX0_reckon) (As := [(0, (H ((H ((H ((H (v0 : Int).toNat 1) : Int).toNat (v2 : Int).toNat) : Int).toNat 3) : Int).toNat (v3 : Int).toNat))]) (st := [(2, (H46 (v0 : Int).toNat 3))]) (X := (H ((H (v0 : Int).toNat 1) : Int).toNat (v2 : Int).toNat)) (mc := 0) (ms := 0) (fc := 0) (fs := 0) h ok_X7_freeTimesLength cls7 im_X7_freeTimesLength se_X7_freeTimesLength ml_RX0_110 dX0_reckon_127 rfl h8 h9 (Nat.le_of_ble_eq_true rfl) rfl ?_
  rintro r K1 H48 ⟨rfl, x49, rfl, h⟩ -
  show Fr mX0_reckon (d + 1) 0 0 none 130 [(5, (0, (H ((H ((H ((H (v0 : Int).toNat 1) : Int).toNat (v2 : Int).toNat) : Int).toNat 3) : Int).toNat (v3 : Int).toNat))), (4, (2, (H ((H (v0 : Int).toNat 1) : Int).toNat (v2 : Int).toNat))), (0, (2, v0)), (1, (2, v1)), (2, (0, v2)), (3, (0, v3))] [(1, x49), (2, (H46 (v0 : Int).toNat 3))] _ H48 _
  obtain ⟨h50, h⟩ := h
  obtain ⟨h51, h⟩ := h
  refine r_invV (M := mX0_reckon) (As := [(1, x49)]) (st := []) (X := (H46 (v0 : Int).toNat 3)) (mc := 0) (ms := 0) (fc := 0) (fs := 0) h ok_X3_divide cls3 im_X3_divide se_X3_divide ml_RX0_114 dX0_reckon_130 rfl h50 h51 (Nat.le_of_ble_eq_true rfl) rfl ?_
  rintro r K1 H52 ⟨rfl, rfl, h⟩ -
  show Fr mX0_reckon (d + 1) 0 0 none 133 [(5, (0, (H ((H ((H ((H (v0 : Int).toNat 1) : Int).toNat (v2 : Int).toNat) : Int).toNat 3) : Int).toNat (v3 : Int).toNat))), (4, (2, (H ((H (v0 : Int).toNat 1) : Int).toNat (v2 : Int).toNat))), (0, (2, v0)), (1, (2, v1)), (2, (0, v2)), (3, (0, v3))] [] _ H52 _
  exact r_vret dX0_reckon_133 rfl ⟨rfl, rfl, h⟩
set_option maxHeartbeats 4000000 in
set_option maxRecDepth 20000 in
theorem eX0_reckon {d : Nat} {K : Shp} {H : Mem} {q : Mem → Prop} {v0 v1 v2 v3 : Int} (h : inI v2 → inI v3 → Rng K H → FX0_reckon_0 d K H q v0 v1 v2 v3) : Cv mX0_reckon (d + 1) [(2, v0), (2, v1), (0, v2), (0, v3)] K H q := Call.of rfl (Nat.le_of_ble_eq_true rfl) (fun o r => h (o (0, v2) (by simp)) (o (0, v3) (by simp)) r)
def FX0_putSag_0 (d : Nat) (K : Shp) (H : Mem) (q : Mem → Prop) (v0 : Int) (v1 : Int) (v2 : Int) : Prop := Fr mX0_putSag (d + 1) 0 0 none 0 [(0, (2, v0)), (1, (2, v1)), (2, (2, v2))] [] K H (qv K q)
set_option maxHeartbeats 4000000 in
set_option maxRecDepth 20000 in
theorem bX0_putSag_0 {d : Nat} {K : Shp} {H : Mem} {q : Mem → Prop} {v0 v1 v2 : Int} (h : ((0 : Int) ≤ v0) ∧ (K[(v0 : Int).toNat]? = some (0, 12)) ∧ ((0 : Int) ≤ v1) ∧ (K[(v1 : Int).toNat]? = some (4, 18)) ∧ ((0 : Int) ≤ (H (v0 : Int).toNat 7)) ∧ (K[((H (v0 : Int).toNat 7) : Int).toNat]? = some (9, 6)) ∧ Cv mX9_arm d [(2, (H (v0 : Int).toNat 7)), (2, v1), (2, (H (v1 : Int).toNat 9))] K H (fun H7 => ((0 : Int) ≤ (H7 (v0 : Int).toNat 7)) ∧ (K[((H7 (v0 : Int).toNat 7) : Int).toNat]? = some (9, 6)) ∧ Cv mX9_fill d [(2, (H7 (v0 : Int).toNat 7)), (2, v1), (0, 0), (0, 1)] K H7 (fun H11 => ((0 : Int) ≤ (H11 (v0 : Int).toNat 7)) ∧ (K[((H11 (v0 : Int).toNat 7) : Int).toNat]? = some (9, 6)) ∧ ((0 : Int) ≤ (H11 ((H11 (v0 : Int).toNat 7) : Int).toNat 0)) ∧ (K[((H11 ((H11 (v0 : Int).toNat 7) : Int).toNat 0) : Int).toNat]? = some (5, 2)) ∧ ((0 : Int) ≤ v2) ∧ (K[(v2 : Int).toNat]? = some (5, 2)) ∧ Cv mX5_put d [(2, v2), (1, (H11 ((H11 ((H11 (v0 : Int).toNat 7) : Int).toNat 0) : Int).toNat 0)), (1, (H11 ((H11 ((H11 (v0 : Int).toNat 7) : Int).toNat 0) : Int).toNat 1))] K H11 (fun H19 => q H19)))) : FX0_putSag_0 d K H q (v0) (v1) (v2) := by
  unfold FX0_putSag_0
  refine r_aload_n 0 dX0_putSag_0 rfl rfl ?_
  obtain ⟨h1, h⟩ := h
  obtain ⟨h2, h⟩ := h
  refine r_getf cls0 7 dX0_putSag_1 (by decide) fl_RX0_44 rfl h1 h2 ?_
  refine r_aload_n 1 dX0_putSag_4 rfl rfl ?_
  refine r_aload_n 1 dX0_putSag_5 rfl rfl ?_
  obtain ⟨h3, h⟩ := h
  obtain ⟨h4, h⟩ := h
  refine r_getf cls4 9 dX0_putSag_6 (by decide) fl_RX0_117 rfl h3 h4 ?_
  obtain ⟨h5, h⟩ := h
  obtain ⟨h6, h⟩ := h
  refine r_invV (M := mX0_putSag) (As := [(2, v1), (2, (H (v1 : Int).toNat 9))]) (st := []) (X := (H (v0 : Int).toNat 7)) (mc := 0) (ms := 0) (fc := 0) (fs := 0) h ok_X9_arm cls9 im_X9_arm se_X9_arm ml_RX0_122 dX0_putSag_9 rfl h5 h6 (Nat.le_of_ble_eq_true rfl) rfl ?_
  rintro r K1 H7 ⟨rfl, rfl, h⟩ -
  show Fr mX0_putSag (d + 1) 0 0 none 12 [(0, (2, v0)), (1, (2, v1)), (2, (2, v2))] [] _ H7 _
  refine r_aload_n 0 dX0_putSag_12 rfl rfl ?_
  refine r_getf cls0 7 dX0_putSag_13 (by decide) fl_RX0_44 rfl h1 h2 ?_
  refine r_aload_n 1 dX0_putSag_16 rfl rfl ?_
  refine r_iconst dX0_putSag_17 (by decide) (by decide) ?_
  refine r_iconst dX0_putSag_18 (by decide) (by decide) ?_
  obtain ⟨h9, h⟩ := h
  obtain ⟨h10, h⟩ := h
  refine r_invV (M := mX0_putSag) (As := [(2, v1), (0, 0), (0, 1)]) (st := []) (X := (H7 (v0 : Int).toNat 7)) (mc := 0) (ms := 0) (fc := 0) (fs := 0) h ok_X9_fill cls9 im_X9_fill se_X9_fill ml_RX0_126 dX0_putSag_19 rfl h9 h10 (Nat.le_of_ble_eq_true rfl) rfl ?_
  rintro r K1 H11 ⟨rfl, rfl, h⟩ -
  show Fr mX0_putSag (d + 1) 0 0 none 22 [(0, (2, v0)), (1, (2, v1)), (2, (2, v2))] [] _ H11 _
  refine r_aload_n 2 dX0_putSag_22 rfl rfl ?_
  refine r_aload_n 0 dX0_putSag_23 rfl rfl ?_
  refine r_getf cls0 7 dX0_putSag_24 (by decide) fl_RX0_44 rfl h1 h2 ?_
  obtain ⟨h13, h⟩ := h
  obtain ⟨h14, h⟩ := h
  refine r_getf cls9 0 dX0_putSag_27 (by decide) fl_RX0_130 rfl h13 h14 ?_
  obtain ⟨h15, h⟩ := h
  obtain ⟨h16, h⟩ := h
  refine r_getf cls5 0 dX0_putSag_30 (by decide) fl_RX0_133 rfl h15 h16 ?_
  refine r_aload_n 0 dX0_putSag_33 rfl rfl ?_
  refine r_getf cls0 7 dX0_putSag_34 (by decide) fl_RX0_44 rfl h1 h2 ?_
  refine r_getf cls9 0 dX0_putSag_37 (by decide) fl_RX0_130 rfl h13 h14 ?_
  refine r_getf cls5 1 dX0_putSag_40 (by decide) fl_RX0_137 rfl h15 h16 ?_
  obtain ⟨h17, h⟩ := h
  obtain ⟨h18, h⟩ := h
  refine r_invV (M := mX0_putSag) (As := [(1, (H11 ((H11 ((H11 (v0 : Int).toNat 7) : Int).toNat 0) : Int).toNat 0)), (1, (H11 ((H11 ((H11 (v0 : Int).toNat 7) : Int).toNat 0) : Int).toNat 1))]) (st := []) (X := v2) (mc := 0) (ms := 0) (fc := 0) (fs := 0) h ok_X5_put cls5 im_X5_put se_X5_put ml_RX0_140 dX0_putSag_43 rfl h17 h18 (Nat.le_of_ble_eq_true rfl) rfl ?_
  rintro r K1 H19 ⟨rfl, rfl, h⟩ -
  show Fr mX0_putSag (d + 1) 0 0 none 46 [(0, (2, v0)), (1, (2, v1)), (2, (2, v2))] [] _ H19 _
  exact r_vret dX0_putSag_46 rfl ⟨rfl, rfl, h⟩
set_option maxHeartbeats 4000000 in
set_option maxRecDepth 20000 in
theorem eX0_putSag {d : Nat} {K : Shp} {H : Mem} {q : Mem → Prop} {v0 v1 v2 : Int} (h : Rng K H → FX0_putSag_0 d K H q v0 v1 v2) : Cv mX0_putSag (d + 1) [(2, v0), (2, v1), (2, v2)] K H q := Call.of rfl (Nat.le_of_ble_eq_true rfl) (fun o r => h  r)
def FX0_putHog_0 (d : Nat) (K : Shp) (H : Mem) (q : Mem → Prop) (v0 : Int) (v1 : Int) (v2 : Int) : Prop := Fr mX0_putHog (d + 1) 0 0 none 0 [(0, (2, v0)), (1, (2, v1)), (2, (2, v2))] [] K H (qv K q)
set_option maxHeartbeats 4000000 in
set_option maxRecDepth 20000 in
theorem bX0_putHog_0 {d : Nat} {K : Shp} {H : Mem} {q : Mem → Prop} {v0 v1 v2 : Int} (h : ((0 : Int) ≤ v0) ∧ (K[(v0 : Int).toNat]? = some (0, 12)) ∧ ((0 : Int) ≤ v1) ∧ (K[(v1 : Int).toNat]? = some (4, 18)) ∧ ((0 : Int) ≤ (H (v0 : Int).toNat 7)) ∧ (K[((H (v0 : Int).toNat 7) : Int).toNat]? = some (9, 6)) ∧ Cv mX9_arm d [(2, (H (v0 : Int).toNat 7)), (2, v1), (2, (H (v1 : Int).toNat 9))] K H (fun H7 => ((0 : Int) ≤ (H7 (v0 : Int).toNat 7)) ∧ (K[((H7 (v0 : Int).toNat 7) : Int).toNat]? = some (9, 6)) ∧ Cv mX9_fill d [(2, (H7 (v0 : Int).toNat 7)), (2, v1), (0, 0), (0, 0)] K H7 (fun H11 => ((0 : Int) ≤ (H11 (v0 : Int).toNat 7)) ∧ (K[((H11 (v0 : Int).toNat 7) : Int).toNat]? = some (9, 6)) ∧ ((0 : Int) ≤ (H11 ((H11 (v0 : Int).toNat 7) : Int).toNat 0)) ∧ (K[((H11 ((H11 (v0 : Int).toNat 7) : Int).toNat 0) : Int).toNat]? = some (5, 2)) ∧ (inL (-(H11 ((H11 ((H11 (v0 : Int).toNat 7) : Int).toNat 0) : Int).toNat 0))) ∧ ((0 : Int) ≤ v2) ∧ (K[(v2 : Int).toNat]? = some (5, 2)) ∧ Cv mX5_put d [(2, v2), (1, (-(H11 ((H11 ((H11 (v0 : Int).toNat 7) : Int).toNat 0) : Int).toNat 0))), (1, (H11 ((H11 ((H11 (v0 : Int).toNat 7) : Int).toNat 0) : Int).toNat 1))] K H11 (fun H20 => q H20)))) : FX0_putHog_0 d K H q (v0) (v1) (v2) := by
  unfold FX0_putHog_0
  refine r_aload_n 0 dX0_putHog_0 rfl rfl ?_
  obtain ⟨h1, h⟩ := h
  obtain ⟨h2, h⟩ := h
  refine r_getf cls0 7 dX0_putHog_1 (by decide) fl_RX0_44 rfl h1 h2 ?_
  refine r_aload_n 1 dX0_putHog_4 rfl rfl ?_
  refine r_aload_n 1 dX0_putHog_5 rfl rfl ?_
  obtain ⟨h3, h⟩ := h
  obtain ⟨h4, h⟩ := h
  refine r_getf cls4 9 dX0_putHog_6 (by decide) fl_RX0_117 rfl h3 h4 ?_
  obtain ⟨h5, h⟩ := h
  obtain ⟨h6, h⟩ := h
  refine r_invV (M := mX0_putHog) (As := [(2, v1), (2, (H (v1 : Int).toNat 9))]) (st := []) (X := (H (v0 : Int).toNat 7)) (mc := 0) (ms := 0) (fc := 0) (fs := 0) h ok_X9_arm cls9 im_X9_arm se_X9_arm ml_RX0_122 dX0_putHog_9 rfl h5 h6 (Nat.le_of_ble_eq_true rfl) rfl ?_
  rintro r K1 H7 ⟨rfl, rfl, h⟩ -
  show Fr mX0_putHog (d + 1) 0 0 none 12 [(0, (2, v0)), (1, (2, v1)), (2, (2, v2))] [] _ H7 _
  refine r_aload_n 0 dX0_putHog_12 rfl rfl ?_
  refine r_getf cls0 7 dX0_putHog_13 (by decide) fl_RX0_44 rfl h1 h2 ?_
  refine r_aload_n 1 dX0_putHog_16 rfl rfl ?_
  refine r_iconst dX0_putHog_17 (by decide) (by decide) ?_
  refine r_iconst dX0_putHog_18 (by decide) (by decide) ?_
  obtain ⟨h9, h⟩ := h
  obtain ⟨h10, h⟩ := h
  refine r_invV (M := mX0_putHog) (As := [(2, v1), (0, 0), (0, 0)]) (st := []) (X := (H7 (v0 : Int).toNat 7)) (mc := 0) (ms := 0) (fc := 0) (fs := 0) h ok_X9_fill cls9 im_X9_fill se_X9_fill ml_RX0_126 dX0_putHog_19 rfl h9 h10 (Nat.le_of_ble_eq_true rfl) rfl ?_
  rintro r K1 H11 ⟨rfl, rfl, h⟩ -
  show Fr mX0_putHog (d + 1) 0 0 none 22 [(0, (2, v0)), (1, (2, v1)), (2, (2, v2))] [] _ H11 _
  refine r_aload_n 2 dX0_putHog_22 rfl rfl ?_
  refine r_aload_n 0 dX0_putHog_23 rfl rfl ?_
  refine r_getf cls0 7 dX0_putHog_24 (by decide) fl_RX0_44 rfl h1 h2 ?_
  obtain ⟨h13, h⟩ := h
  obtain ⟨h14, h⟩ := h
  refine r_getf cls9 0 dX0_putHog_27 (by decide) fl_RX0_130 rfl h13 h14 ?_
  obtain ⟨h15, h⟩ := h
  obtain ⟨h16, h⟩ := h
  refine r_getf cls5 0 dX0_putHog_30 (by decide) fl_RX0_133 rfl h15 h16 ?_
  obtain ⟨h17, h⟩ := h
  refine r_lneg dX0_putHog_33 h17 ?_
  refine r_aload_n 0 dX0_putHog_34 rfl rfl ?_
  refine r_getf cls0 7 dX0_putHog_35 (by decide) fl_RX0_44 rfl h1 h2 ?_
  refine r_getf cls9 0 dX0_putHog_38 (by decide) fl_RX0_130 rfl h13 h14 ?_
  refine r_getf cls5 1 dX0_putHog_41 (by decide) fl_RX0_137 rfl h15 h16 ?_
  obtain ⟨h18, h⟩ := h
  obtain ⟨h19, h⟩ := h
  refine r_invV (M := mX0_putHog) (As := [(1, (-(H11 ((H11 ((H11 (v0 : Int).toNat 7) : Int).toNat 0) : Int).toNat 0))), (1, (H11 ((H11 ((H11 (v0 : Int).toNat 7) : Int).toNat 0) : Int).toNat 1))]) (st := []) (X := v2) (mc := 0) (ms := 0) (fc := 0) (fs := 0) h ok_X5_put cls5 im_X5_put se_X5_put ml_RX0_140 dX0_putHog_44 rfl h18 h19 (Nat.le_of_ble_eq_true rfl) rfl ?_
  rintro r K1 H20 ⟨rfl, rfl, h⟩ -
  show Fr mX0_putHog (d + 1) 0 0 none 47 [(0, (2, v0)), (1, (2, v1)), (2, (2, v2))] [] _ H20 _
  exact r_vret dX0_putHog_47 rfl ⟨rfl, rfl, h⟩
set_option maxHeartbeats 4000000 in
set_option maxRecDepth 20000 in
theorem eX0_putHog {d : Nat} {K : Shp} {H : Mem} {q : Mem → Prop} {v0 v1 v2 : Int} (h : Rng K H → FX0_putHog_0 d K H q v0 v1 v2) : Cv mX0_putHog (d + 1) [(2, v0), (2, v1), (2, v2)] K H q := Call.of rfl (Nat.le_of_ble_eq_true rfl) (fun o r => h  r)
def FX0_putSupport_0 (d : Nat) (K : Shp) (H : Mem) (q : Mem → Prop) (v0 : Int) (v1 : Int) (v2 : Int) (v3 : Int) : Prop := Fr mX0_putSupport (d + 1) 0 0 none 0 [(0, (2, v0)), (1, (2, v1)), (2, (0, v2)), (3, (2, v3))] [] K H (qv K q)
def FX0_putSupport_9 (d : Nat) (K : Shp) (H : Mem) (q : Mem → Prop) (v0 : Int) (v1 : Int) (v2 : Int) (v3 : Int) (s0 : Int) : Prop := Fr mX0_putSupport (d + 1) 0 0 none 9 [(0, (2, v0)), (1, (2, v1)), (2, (0, v2)), (3, (2, v3))] [(0, s0)] K H (qv K q)
def FX0_putSupport_24 (d : Nat) (K : Shp) (H : Mem) (q : Mem → Prop) (v0 : Int) (v1 : Int) (v2 : Int) (v3 : Int) (v4 : Int) (s0 : Int) : Prop := Fr mX0_putSupport (d + 1) 0 0 none 24 [(0, (2, v0)), (1, (2, v1)), (2, (0, v2)), (3, (2, v3)), (4, (0, v4))] [(0, s0)] K H (qv K q)
def FX0_putSupport_61 (d : Nat) (K : Shp) (H : Mem) (q : Mem → Prop) (v0 : Int) (v1 : Int) (v2 : Int) (v3 : Int) (v4 : Int) (v5 : Int) : Prop := Fr mX0_putSupport (d + 1) 0 0 none 61 [(0, (2, v0)), (1, (2, v1)), (2, (0, v2)), (3, (2, v3)), (4, (0, v4)), (5, (0, v5))] [] K H (qv K q)
set_option maxHeartbeats 4000000 in
set_option maxRecDepth 20000 in
theorem bX0_putSupport_0 {d : Nat} {K : Shp} {H : Mem} {q : Mem → Prop} {v0 v1 v2 v3 : Int} (h : ((¬ (v2 : Int) ≤ 0 → FX0_putSupport_9 d K H q (v0) (v1) (v2) (v3) (0)) ∧ ((v2 : Int) ≤ 0 → FX0_putSupport_9 d K H q (v0) (v1) (v2) (v3) (1)))) : FX0_putSupport_0 d K H q (v0) (v1) (v2) (v3) := by
  unfold FX0_putSupport_0
  refine r_iload_n 2 dX0_putSupport_0 rfl rfl ?_
  refine r_if_gt (tgt := 8) dX0_putSupport_1 (by decide) (fun c1 => ?_) (fun c1 => ?_)
  · replace h := h.1 c1
    refine r_iconst dX0_putSupport_8 (by decide) (by decide) ?_
    refine Fr.fewer [0, 1, 2, 3] rfl ?_
    exact h
  · replace h := h.2 c1
    refine r_iconst dX0_putSupport_4 (by decide) (by decide) ?_
    refine r_goto (tgt := 9) dX0_putSupport_5 (by decide) ?_
    refine Fr.fewer [0, 1, 2, 3] rfl ?_
    exact h
set_option maxHeartbeats 4000000 in
set_option maxRecDepth 20000 in
theorem bX0_putSupport_9 {d : Nat} {K : Shp} {H : Mem} {q : Mem → Prop} {v0 v1 v2 v3 s0 : Int} (h : ((0 : Int) ≤ v0) ∧ (K[(v0 : Int).toNat]? = some (0, 12)) ∧ (((v2 : Int) < (H (v0 : Int).toNat 0) → FX0_putSupport_24 d K H q (v0) (v1) (v2) (v3) (s0) (0)) ∧ (¬ (v2 : Int) < (H (v0 : Int).toNat 0) → FX0_putSupport_24 d K H q (v0) (v1) (v2) (v3) (s0) (1)))) : FX0_putSupport_9 d K H q (v0) (v1) (v2) (v3) (s0) := by
  unfold FX0_putSupport_9
  refine r_istore dX0_putSupport_9 (by decide) rfl ?_
  refine r_iload_n 3 dX0_putSupport_11 rfl rfl ?_
  refine r_aload_n 1 dX0_putSupport_12 rfl rfl ?_
  obtain ⟨h1, h⟩ := h
  obtain ⟨h2, h⟩ := h
  refine r_getf cls0 0 dX0_putSupport_13 (by decide) fl_RX0_9 rfl h1 h2 ?_
  refine r_icmp_lt (tgt := 23) dX0_putSupport_16 (by decide) (fun c3 => ?_) (fun c3 => ?_)
  · replace h := h.1 c3
    refine r_iconst dX0_putSupport_23 (by decide) (by decide) ?_
    refine Fr.fewer [1, 2, 3, 4, 0] rfl ?_
    exact h
  · replace h := h.2 c3
    refine r_iconst dX0_putSupport_19 (by decide) (by decide) ?_
    refine r_goto (tgt := 24) dX0_putSupport_20 (by decide) ?_
    refine Fr.fewer [1, 2, 3, 4, 0] rfl ?_
    exact h
set_option maxHeartbeats 4000000 in
set_option maxRecDepth 20000 in
theorem bX0_putSupport_24 {d : Nat} {K : Shp} {H : Mem} {q : Mem → Prop} {v0 v1 v2 v3 v4 s0 : Int} (h : (((v4 : Int) = 0 → (((s0 : Int) = 0 → FX0_putSupport_61 d K H q (v0) (v1) (v2) (v3) (v4) (s0)) ∧ (¬ (s0 : Int) = 0 → ((0 : Int) ≤ v0) ∧ (K[(v0 : Int).toNat]? = some (0, 12)) ∧ ((0 : Int) ≤ (H (v0 : Int).toNat 2)) ∧ ∃ n6 : Nat, (K[((H (v0 : Int).toNat 2) : Int).toNat]? = some (22, n6)) ∧ ((1 : Int) < n6) ∧ ((¬ ((H ((H (v0 : Int).toNat 2) : Int).toNat (1 : Int).toNat) : Int) = 0 → FX0_putSupport_61 d K H q (v0) (v1) (v2) (v3) (v4) (s0)) ∧ (((H ((H (v0 : Int).toNat 2) : Int).toNat (1 : Int).toNat) : Int) = 0 → ((0 : Int) ≤ v3) ∧ (K[(v3 : Int).toNat]? = some (5, 2)) ∧ Cv mX5_put d [(2, v3), (1, 0), (1, 1)] K H (fun H12 => q H12)))))) ∧ (¬ (v4 : Int) = 0 → ((0 : Int) ≤ v0) ∧ (K[(v0 : Int).toNat]? = some (0, 12)) ∧ ((0 : Int) ≤ (H (v0 : Int).toNat 2)) ∧ ∃ n17 : Nat, (K[((H (v0 : Int).toNat 2) : Int).toNat]? = some (22, n17)) ∧ ((0 : Int) < n17) ∧ ((((H ((H (v0 : Int).toNat 2) : Int).toNat (0 : Int).toNat) : Int) = 0 → ((0 : Int) ≤ v3) ∧ (K[(v3 : Int).toNat]? = some (5, 2)) ∧ Cv mX5_put d [(2, v3), (1, 0), (1, 1)] K H (fun H23 => q H23)) ∧ (¬ ((H ((H (v0 : Int).toNat 2) : Int).toNat (0 : Int).toNat) : Int) = 0 → (((s0 : Int) = 0 → FX0_putSupport_61 d K H q (v0) (v1) (v2) (v3) (v4) (s0)) ∧ (¬ (s0 : Int) = 0 → ((1 : Int) < n17) ∧ ((¬ ((H ((H (v0 : Int).toNat 2) : Int).toNat (1 : Int).toNat) : Int) = 0 → FX0_putSupport_61 d K H q (v0) (v1) (v2) (v3) (v4) (s0)) ∧ (((H ((H (v0 : Int).toNat 2) : Int).toNat (1 : Int).toNat) : Int) = 0 → ((0 : Int) ≤ v3) ∧ (K[(v3 : Int).toNat]? = some (5, 2)) ∧ Cv mX5_put d [(2, v3), (1, 0), (1, 1)] K H (fun H30 => q H30)))))))))) : FX0_putSupport_24 d K H q (v0) (v1) (v2) (v3) (v4) (s0) := by
  unfold FX0_putSupport_24
  refine r_istore dX0_putSupport_24 (by decide) rfl ?_
  refine r_iload 5 dX0_putSupport_26 rfl ?_
  refine r_if_eq (tgt := 40) dX0_putSupport_28 (by decide) (fun c1 => ?_) (fun c1 => ?_)
  · replace h := h.1 c1
    refine r_iload 0 dX0_putSupport_40 rfl ?_
    refine r_if_eq (tgt := 61) dX0_putSupport_42 (by decide) (fun c2 => ?_) (fun c2 => ?_)
    · replace h := h.1 c2
      refine Fr.fewer [1, 2, 3, 4, 5, 0] rfl ?_
      exact h
    · replace h := h.2 c2
      refine r_aload_n 1 dX0_putSupport_45 rfl rfl ?_
      obtain ⟨h3, h⟩ := h
      obtain ⟨h4, h⟩ := h
      refine r_getf cls0 2 dX0_putSupport_46 (by decide) fl_RX0_21 rfl h3 h4 ?_
      refine r_iconst dX0_putSupport_49 (by decide) (by decide) ?_
      obtain ⟨h5, h⟩ := h
      obtain ⟨n6, h⟩ := h
      obtain ⟨h7, h⟩ := h
      obtain ⟨h8, h⟩ := h
      refine r_zald n6 dX0_putSupport_50 h5 h7 (by decide) h8 ?_
      refine r_if_ne (tgt := 61) dX0_putSupport_51 (by decide) (fun c9 => ?_) (fun c9 => ?_)
      · replace h := h.1 c9
        refine Fr.fewer [1, 2, 3, 4, 5, 0] rfl ?_
        exact h
      · replace h := h.2 c9
        refine r_aload_n 4 dX0_putSupport_54 rfl rfl ?_
        refine r_lconst0 dX0_putSupport_55 ?_
        refine r_lconst1 dX0_putSupport_56 ?_
        obtain ⟨h10, h⟩ := h
        obtain ⟨h11, h⟩ := h
        refine r_invV (M := mX0_putSupport) (As := [(1, 0), (1, 1)]) (st := []) (X := v3) (mc := 0) (ms := 0) (fc := 0) (fs := 0) h ok_X5_put cls5 im_X5_put se_X5_put ml_RX0_140 dX0_putSupport_57 rfl h10 h11 (Nat.le_of_ble_eq_true rfl) rfl ?_
        rintro r K1 H12 ⟨rfl, rfl, h⟩ -
        show Fr mX0_putSupport (d + 1) 0 0 none 60 [(5, (0, s0)), (0, (2, v0)), (1, (2, v1)), (2, (0, v2)), (3, (2, v3)), (4, (0, v4))] [] _ H12 _
        exact r_vret dX0_putSupport_60 rfl ⟨rfl, rfl, h⟩
  · replace h := h.2 c1
    refine r_aload_n 1 dX0_putSupport_31 rfl rfl ?_
    obtain ⟨h14, h⟩ := h
    obtain ⟨h15, h⟩ := h
    refine r_getf cls0 2 dX0_putSupport_32 (by decide) fl_RX0_21 rfl h14 h15 ?_
    refine r_iconst dX0_putSupport_35 (by decide) (by decide) ?_
    obtain ⟨h16, h⟩ := h
    obtain ⟨n17, h⟩ := h
    obtain ⟨h18, h⟩ := h
    obtain ⟨h19, h⟩ := h
    refine r_zald n17 dX0_putSupport_36 h16 h18 (by decide) h19 ?_
    refine r_if_eq (tgt := 54) dX0_putSupport_37 (by decide) (fun c20 => ?_) (fun c20 => ?_)
    · replace h := h.1 c20
      refine r_aload_n 4 dX0_putSupport_54 rfl rfl ?_
      refine r_lconst0 dX0_putSupport_55 ?_
      refine r_lconst1 dX0_putSupport_56 ?_
      obtain ⟨h21, h⟩ := h
      obtain ⟨h22, h⟩ := h
      refine r_invV (M := mX0_putSupport) (As := [(1, 0), (1, 1)]) (st := []) (X := v3) (mc := 0) (ms := 0) (fc := 0) (fs := 0) h ok_X5_put cls5 im_X5_put se_X5_put ml_RX0_140 dX0_putSupport_57 rfl h21 h22 (Nat.le_of_ble_eq_true rfl) rfl ?_
      rintro r K1 H23 ⟨rfl, rfl, h⟩ -
      show Fr mX0_putSupport (d + 1) 0 0 none 60 [(5, (0, s0)), (0, (2, v0)), (1, (2, v1)), (2, (0, v2)), (3, (2, v3)), (4, (0, v4))] [] _ H23 _
      exact r_vret dX0_putSupport_60 rfl ⟨rfl, rfl, h⟩
    · replace h := h.2 c20
      refine r_iload 0 dX0_putSupport_40 rfl ?_
      refine r_if_eq (tgt := 61) dX0_putSupport_42 (by decide) (fun c25 => ?_) (fun c25 => ?_)
      · replace h := h.1 c25
        refine Fr.fewer [1, 2, 3, 4, 5, 0] rfl ?_
        exact h
      · replace h := h.2 c25
        refine r_aload_n 1 dX0_putSupport_45 rfl rfl ?_
        refine r_getf cls0 2 dX0_putSupport_46 (by decide) fl_RX0_21 rfl h14 h15 ?_
        refine r_iconst dX0_putSupport_49 (by decide) (by decide) ?_
        obtain ⟨h26, h⟩ := h
        refine r_zald n17 dX0_putSupport_50 h16 h18 (by decide) h26 ?_
        refine r_if_ne (tgt := 61) dX0_putSupport_51 (by decide) (fun c27 => ?_) (fun c27 => ?_)
        · replace h := h.1 c27
          refine Fr.fewer [1, 2, 3, 4, 5, 0] rfl ?_
          exact h
        · replace h := h.2 c27
          refine r_aload_n 4 dX0_putSupport_54 rfl rfl ?_
          refine r_lconst0 dX0_putSupport_55 ?_
          refine r_lconst1 dX0_putSupport_56 ?_
          obtain ⟨h28, h⟩ := h
          obtain ⟨h29, h⟩ := h
          refine r_invV (M := mX0_putSupport) (As := [(1, 0), (1, 1)]) (st := []) (X := v3) (mc := 0) (ms := 0) (fc := 0) (fs := 0) h ok_X5_put cls5 im_X5_put se_X5_put ml_RX0_140 dX0_putSupport_57 rfl h28 h29 (Nat.le_of_ble_eq_true rfl) rfl ?_
          rintro r K1 H30 ⟨rfl, rfl, h⟩ -
          show Fr mX0_putSupport (d + 1) 0 0 none 60 [(5, (0, s0)), (0, (2, v0)), (1, (2, v1)), (2, (0, v2)), (3, (2, v3)), (4, (0, v4))] [] _ H30 _
          exact r_vret dX0_putSupport_60 rfl ⟨rfl, rfl, h⟩
set_option maxHeartbeats 4000000 in
set_option maxRecDepth 20000 in
theorem bX0_putSupport_61 {d : Nat} {K : Shp} {H : Mem} {q : Mem → Prop} {v0 v1 v2 v3 v4 v5 : Int} (h : ((0 : Int) ≤ v0) ∧ (K[(v0 : Int).toNat]? = some (0, 12)) ∧ (((v4 : Int) = 0 → (inI (v2 - 1)) ∧ ((0 : Int) ≤ (H (v0 : Int).toNat 1)) ∧ ∃ n6 : Nat, (K[((H (v0 : Int).toNat 1) : Int).toNat]? = some (24, n6)) ∧ ((0 : Int) ≤ (v2 - 1)) ∧ (((v2 - 1) : Int) < n6) ∧ ((0 : Int) ≤ (H ((H (v0 : Int).toNat 1) : Int).toNat ((v2 - 1) : Int).toNat)) ∧ (K[((H ((H (v0 : Int).toNat 1) : Int).toNat ((v2 - 1) : Int).toNat) : Int).toNat]? = some (7, 5)) ∧ ((0 : Int) ≤ v1) ∧ ∃ n13 : Nat, (K[(v1 : Int).toNat]? = some (23, n13)) ∧ ((0 : Int) ≤ (H ((H ((H (v0 : Int).toNat 1) : Int).toNat ((v2 - 1) : Int).toNat) : Int).toNat 1)) ∧ (((H ((H ((H (v0 : Int).toNat 1) : Int).toNat ((v2 - 1) : Int).toNat) : Int).toNat 1) : Int) < n13) ∧ Cv mX0_putHog d [(2, v0), (2, (H (v1 : Int).toNat ((H ((H ((H (v0 : Int).toNat 1) : Int).toNat ((v2 - 1) : Int).toNat) : Int).toNat 1) : Int).toNat)), (2, v3)] K H (fun H17 => ((¬ (v4 : Int) = 0 → q H17) ∧ ((v4 : Int) = 0 → ((¬ (v5 : Int) = 0 → q H17) ∧ ((v5 : Int) = 0 → ((0 : Int) ≤ (H17 (v0 : Int).toNat 1)) ∧ ∃ n22 : Nat, (K[((H17 (v0 : Int).toNat 1) : Int).toNat]? = some (24, n22)) ∧ ((0 : Int) ≤ v2) ∧ ((v2 : Int) < n22) ∧ ((0 : Int) ≤ (H17 ((H17 (v0 : Int).toNat 1) : Int).toNat (v2 : Int).toNat)) ∧ (K[((H17 ((H17 (v0 : Int).toNat 1) : Int).toNat (v2 : Int).toNat) : Int).toNat]? = some (7, 5)) ∧ ((0 : Int) ≤ (H17 ((H17 ((H17 (v0 : Int).toNat 1) : Int).toNat (v2 : Int).toNat) : Int).toNat 1)) ∧ (((H17 ((H17 ((H17 (v0 : Int).toNat 1) : Int).toNat (v2 : Int).toNat) : Int).toNat 1) : Int) < n13) ∧ Cv mX0_putHog d [(2, v0), (2, (H17 (v1 : Int).toNat ((H17 ((H17 ((H17 (v0 : Int).toNat 1) : Int).toNat (v2 : Int).toNat) : Int).toNat 1) : Int).toNat)), (2, (H17 (v0 : Int).toNat 11))] K H17 (fun H30 => ((0 : Int) ≤ (H30 (v0 : Int).toNat 11)) ∧ (K[((H30 (v0 : Int).toNat 11) : Int).toNat]? = some (5, 2)) ∧ Ci mX5_isUnder d [(2, (H30 (v0 : Int).toNat 11)), (2, v3)] K H30 (fun x35 H34 => (((x35 : Int) = 0 → q H34) ∧ (¬ (x35 : Int) = 0 → ((0 : Int) ≤ (H34 (v0 : Int).toNat 11)) ∧ (K[((H34 (v0 : Int).toNat 11) : Int).toNat]? = some (5, 2)) ∧ ((0 : Int) ≤ v3) ∧ (K[(v3 : Int).toNat]? = some (5, 2)) ∧ Cv mX5_put d [(2, v3), (1, (H34 ((H34 (v0 : Int).toNat 11) : Int).toNat 0)), (1, (H34 ((H34 (v0 : Int).toNat 11) : Int).toNat 1))] K H34 (fun H41 => q H41))))))))))) ∧ (¬ (v4 : Int) = 0 → ((0 : Int) ≤ (H (v0 : Int).toNat 1)) ∧ ∃ n44 : Nat, (K[((H (v0 : Int).toNat 1) : Int).toNat]? = some (24, n44)) ∧ ((0 : Int) < n44) ∧ ((0 : Int) ≤ (H ((H (v0 : Int).toNat 1) : Int).toNat (0 : Int).toNat)) ∧ (K[((H ((H (v0 : Int).toNat 1) : Int).toNat (0 : Int).toNat) : Int).toNat]? = some (7, 5)) ∧ ((0 : Int) ≤ v1) ∧ ∃ n50 : Nat, (K[(v1 : Int).toNat]? = some (23, n50)) ∧ ((0 : Int) ≤ (H ((H ((H (v0 : Int).toNat 1) : Int).toNat (0 : Int).toNat) : Int).toNat 1)) ∧ (((H ((H ((H (v0 : Int).toNat 1) : Int).toNat (0 : Int).toNat) : Int).toNat 1) : Int) < n50) ∧ Cv mX0_putHog d [(2, v0), (2, (H (v1 : Int).toNat ((H ((H ((H (v0 : Int).toNat 1) : Int).toNat (0 : Int).toNat) : Int).toNat 1) : Int).toNat)), (2, v3)] K H (fun H54 => ((¬ (v4 : Int) = 0 → q H54) ∧ ((v4 : Int) = 0 → ((¬ (v5 : Int) = 0 → q H54) ∧ ((v5 : Int) = 0 → ((0 : Int) ≤ (H54 (v0 : Int).toNat 1)) ∧ ∃ n59 : Nat, (K[((H54 (v0 : Int).toNat 1) : Int).toNat]? = some (24, n59)) ∧ ((0 : Int) ≤ v2) ∧ ((v2 : Int) < n59) ∧ ((0 : Int) ≤ (H54 ((H54 (v0 : Int).toNat 1) : Int).toNat (v2 : Int).toNat)) ∧ (K[((H54 ((H54 (v0 : Int).toNat 1) : Int).toNat (v2 : Int).toNat) : Int).toNat]? = some (7, 5)) ∧ ((0 : Int) ≤ (H54 ((H54 ((H54 (v0 : Int).toNat 1) : Int).toNat (v2 : Int).toNat) : Int).toNat 1)) ∧ (((H54 ((H54 ((H54 (v0 : Int).toNat 1) : Int).toNat (v2 : Int).toNat) : Int).toNat 1) : Int) < n50) ∧ Cv mX0_putHog d [(2, v0), (2, (H54 (v1 : Int).toNat ((H54 ((H54 ((H54 (v0 : Int).toNat 1) : Int).toNat (v2 : Int).toNat) : Int).toNat 1) : Int).toNat)), (2, (H54 (v0 : Int).toNat 11))] K H54 (fun H67 => ((0 : Int) ≤ (H67 (v0 : Int).toNat 11)) ∧ (K[((H67 (v0 : Int).toNat 11) : Int).toNat]? = some (5, 2)) ∧ Ci mX5_isUnder d [(2, (H67 (v0 : Int).toNat 11)), (2, v3)] K H67 (fun x72 H71 => (((x72 : Int) = 0 → q H71) ∧ (¬ (x72 : Int) = 0 → ((0 : Int) ≤ (H71 (v0 : Int).toNat 11)) ∧ (K[((H71 (v0 : Int).toNat 11) : Int).toNat]? = some (5, 2)) ∧ ((0 : Int) ≤ v3) ∧ (K[(v3 : Int).toNat]? = some (5, 2)) ∧ Cv mX5_put d [(2, v3), (1, (H71 ((H71 (v0 : Int).toNat 11) : Int).toNat 0)), (1, (H71 ((H71 (v0 : Int).toNat 11) : Int).toNat 1))] K H71 (fun H78 => q H78))))))))))))) : FX0_putSupport_61 d K H q (v0) (v1) (v2) (v3) (v4) (v5) := by
  unfold FX0_putSupport_61
  refine r_aload_n 0 dX0_putSupport_61 rfl rfl ?_
  refine r_aload_n 1 dX0_putSupport_62 rfl rfl ?_
  refine r_aload_n 0 dX0_putSupport_63 rfl rfl ?_
  obtain ⟨h1, h⟩ := h
  obtain ⟨h2, h⟩ := h
  refine r_getf cls0 1 dX0_putSupport_64 (by decide) fl_RX0_17 rfl h1 h2 ?_
  refine r_iload 4 dX0_putSupport_67 rfl ?_
  refine r_if_eq (tgt := 76) dX0_putSupport_69 (by decide) (fun c3 => ?_) (fun c3 => ?_)
  · replace h := h.1 c3
    refine r_iload_n 2 dX0_putSupport_76 rfl rfl ?_
    refine r_iconst dX0_putSupport_77 (by decide) (by decide) ?_
    obtain ⟨h4, h⟩ := h
    refine r_isub dX0_putSupport_78 h4 ?_
    obtain ⟨h5, h⟩ := h
    obtain ⟨n6, h⟩ := h
    obtain ⟨h7, h⟩ := h
    obtain ⟨h8, h⟩ := h
    obtain ⟨h9, h⟩ := h
    refine r_aald 24 n6 (by decide) dX0_putSupport_79 h5 h7 h8 h9 ?_
    obtain ⟨h10, h⟩ := h
    obtain ⟨h11, h⟩ := h
    refine r_getf cls7 1 dX0_putSupport_80 (by decide) fl_RX0_68 rfl h10 h11 ?_
    obtain ⟨h12, h⟩ := h
    obtain ⟨n13, h⟩ := h
    obtain ⟨h14, h⟩ := h
    obtain ⟨h15, h⟩ := h
    obtain ⟨h16, h⟩ := h
    refine r_aald 23 n13 (by decide) dX0_putSupport_83 h12 h14 h15 h16 ?_
    refine r_aload_n 3 dX0_putSupport_84 rfl rfl ?_
    refine r_invV (M := mX0_putSupport) (As := [(2, (H (v1 : Int).toNat ((H ((H ((H (v0 : Int).toNat 1) : Int).toNat ((v2 - 1) : Int).toNat) : Int).toNat 1) : Int).toNat)), (2, v3)]) (st := []) (X := v0) (mc := 0) (ms := 0) (fc := 0) (fs := 0) h ok_X0_putHog cls0 im_X0_putHog se_X0_putHog ml_RX0_144 dX0_putSupport_85 rfl h1 h2 (Nat.le_of_ble_eq_true rfl) rfl ?_
    rintro r K1 H17 ⟨rfl, rfl, h⟩ -
    show Fr mX0_putSupport (d + 1) 0 0 none 88 [(0, (2, v0)), (1, (2, v1)), (2, (0, v2)), (3, (2, v3)), (4, (0, v4)), (5, (0, v5))] [] _ H17 _
    refine r_iload 4 dX0_putSupport_88 rfl ?_
    refine r_if_ne (tgt := 146) dX0_putSupport_90 (by decide) (fun c19 => ?_) (fun c19 => ?_)
    · replace h := h.1 c19
      exact r_vret dX0_putSupport_146 rfl ⟨rfl, rfl, h⟩
    · replace h := h.2 c19
      refine r_iload 5 dX0_putSupport_93 rfl ?_
      refine r_if_ne (tgt := 146) dX0_putSupport_95 (by decide) (fun c20 => ?_) (fun c20 => ?_)
      · replace h := h.1 c20
        exact r_vret dX0_putSupport_146 rfl ⟨rfl, rfl, h⟩
      · replace h := h.2 c20
        refine r_aload_n 0 dX0_putSupport_98 rfl rfl ?_
        refine r_aload_n 1 dX0_putSupport_99 rfl rfl ?_
        refine r_aload_n 0 dX0_putSupport_100 rfl rfl ?_
        refine r_getf cls0 1 dX0_putSupport_101 (by decide) fl_RX0_17 rfl h1 h2 ?_
        refine r_iload_n 2 dX0_putSupport_104 rfl rfl ?_
        obtain ⟨h21, h⟩ := h
        obtain ⟨n22, h⟩ := h
        obtain ⟨h23, h⟩ := h
        obtain ⟨h24, h⟩ := h
        obtain ⟨h25, h⟩ := h
        refine r_aald 24 n22 (by decide) dX0_putSupport_105 h21 h23 h24 h25 ?_
        obtain ⟨h26, h⟩ := h
        obtain ⟨h27, h⟩ := h
        refine r_getf cls7 1 dX0_putSupport_106 (by decide) fl_RX0_68 rfl h26 h27 ?_
        obtain ⟨h28, h⟩ := h
        obtain ⟨h29, h⟩ := h
        refine r_aald 23 n13 (by decide) dX0_putSupport_109 h12 h14 h28 h29 ?_
        refine r_aload_n 0 dX0_putSupport_110 rfl rfl ?_
        refine r_getf cls0 11 dX0_putSupport_111 (by decide) fl_RX0_61 rfl h1 h2 ?_
        refine r_invV (M := mX0_putSupport) (As := [(2, (H17 (v1 : Int).toNat ((H17 ((H17 ((H17 (v0 : Int).toNat 1) : Int).toNat (v2 : Int).toNat) : Int).toNat 1) : Int).toNat)), (2, (H17 (v0 : Int).toNat 11))]) (st := []) (X := v0) (mc := 0) (ms := 0) (fc := 0) (fs := 0) h ok_X0_putHog cls0 im_X0_putHog se_X0_putHog ml_RX0_144 dX0_putSupport_114 rfl h1 h2 (Nat.le_of_ble_eq_true rfl) rfl ?_
        rintro r K1 H30 ⟨rfl, rfl, h⟩ -
        show Fr mX0_putSupport (d + 1) 0 0 none 117 [(0, (2, v0)), (1, (2, v1)), (2, (0, v2)), (3, (2, v3)), (4, (0, v4)), (5, (0, v5))] [] _ H30 _
        refine r_aload_n 0 dX0_putSupport_117 rfl rfl ?_
        refine r_getf cls0 11 dX0_putSupport_118 (by decide) fl_RX0_61 rfl h1 h2 ?_
        refine r_aload_n 3 dX0_putSupport_121 rfl rfl ?_
        obtain ⟨h32, h⟩ := h
        obtain ⟨h33, h⟩ := h
        refine r_invV (M := mX0_putSupport) (As := [(2, v3)]) (st := []) (X := (H30 (v0 : Int).toNat 11)) (mc := 0) (ms := 0) (fc := 0) (fs := 0) h ok_X5_isUnder cls5 im_X5_isUnder se_X5_isUnder ml_RX0_147 dX0_putSupport_122 rfl h32 h33 (Nat.le_of_ble_eq_true rfl) rfl ?_
        rintro r K1 H34 ⟨rfl, x35, rfl, h⟩ -
        show Fr mX0_putSupport (d + 1) 0 0 none 125 [(0, (2, v0)), (1, (2, v1)), (2, (0, v2)), (3, (2, v3)), (4, (0, v4)), (5, (0, v5))] [(0, x35)] _ H34 _
        refine r_if_eq (tgt := 146) dX0_putSupport_125 (by decide) (fun c36 => ?_) (fun c36 => ?_)
        · replace h := h.1 c36
          exact r_vret dX0_putSupport_146 rfl ⟨rfl, rfl, h⟩
        · replace h := h.2 c36
          refine r_aload_n 3 dX0_putSupport_128 rfl rfl ?_
          refine r_aload_n 0 dX0_putSupport_129 rfl rfl ?_
          refine r_getf cls0 11 dX0_putSupport_130 (by decide) fl_RX0_61 rfl h1 h2 ?_
          obtain ⟨h37, h⟩ := h
          obtain ⟨h38, h⟩ := h
          refine r_getf cls5 0 dX0_putSupport_133 (by decide) fl_RX0_133 rfl h37 h38 ?_
          refine r_aload_n 0 dX0_putSupport_136 rfl rfl ?_
          refine r_getf cls0 11 dX0_putSupport_137 (by decide) fl_RX0_61 rfl h1 h2 ?_
          refine r_getf cls5 1 dX0_putSupport_140 (by decide) fl_RX0_137 rfl h37 h38 ?_
          obtain ⟨h39, h⟩ := h
          obtain ⟨h40, h⟩ := h
          refine r_invV (M := mX0_putSupport) (As := [(1, (H34 ((H34 (v0 : Int).toNat 11) : Int).toNat 0)), (1, (H34 ((H34 (v0 : Int).toNat 11) : Int).toNat 1))]) (st := []) (X := v3) (mc := 0) (ms := 0) (fc := 0) (fs := 0) h ok_X5_put cls5 im_X5_put se_X5_put ml_RX0_140 dX0_putSupport_143 rfl h39 h40 (Nat.le_of_ble_eq_true rfl) rfl ?_
          rintro r K1 H41 ⟨rfl, rfl, h⟩ -
          show Fr mX0_putSupport (d + 1) 0 0 none 146 [(0, (2, v0)), (1, (2, v1)), (2, (0, v2)), (3, (2, v3)), (4, (0, v4)), (5, (0, v5))] [] _ H41 _
          exact r_vret dX0_putSupport_146 rfl ⟨rfl, rfl, h⟩
  · replace h := h.2 c3
    refine r_iconst dX0_putSupport_72 (by decide) (by decide) ?_
    refine r_goto (tgt := 79) dX0_putSupport_73 (by decide) ?_
    obtain ⟨h43, h⟩ := h
    obtain ⟨n44, h⟩ := h
    obtain ⟨h45, h⟩ := h
    obtain ⟨h46, h⟩ := h
    refine r_aald 24 n44 (by decide) dX0_putSupport_79 h43 h45 (by decide) h46 ?_
    obtain ⟨h47, h⟩ := h
    obtain ⟨h48, h⟩ := h
    refine r_getf cls7 1 dX0_putSupport_80 (by decide) fl_RX0_68 rfl h47 h48 ?_
    obtain ⟨h49, h⟩ := h
    obtain ⟨n50, h⟩ := h
    obtain ⟨h51, h⟩ := h
    obtain ⟨h52, h⟩ := h
    obtain ⟨h53, h⟩ := h
    refine r_aald 23 n50 (by decide) dX0_putSupport_83 h49 h51 h52 h53 ?_
    refine r_aload_n 3 dX0_putSupport_84 rfl rfl ?_
    refine r_invV (M := mX0_putSupport) (As := [(2, (H (v1 : Int).toNat ((H ((H ((H (v0 : Int).toNat 1) : Int).toNat (0 : Int).toNat) : Int).toNat 1) : Int).toNat)), (2, v3)]) (st := []) (X := v0) (mc := 0) (ms := 0) (fc := 0) (fs := 0) h ok_X0_putHog cls0 im_X0_putHog se_X0_putHog ml_RX0_144 dX0_putSupport_85 rfl h1 h2 (Nat.le_of_ble_eq_true rfl) rfl ?_
    rintro r K1 H54 ⟨rfl, rfl, h⟩ -
    show Fr mX0_putSupport (d + 1) 0 0 none 88 [(0, (2, v0)), (1, (2, v1)), (2, (0, v2)), (3, (2, v3)), (4, (0, v4)), (5, (0, v5))] [] _ H54 _
    refine r_iload 4 dX0_putSupport_88 rfl ?_
    refine r_if_ne (tgt := 146) dX0_putSupport_90 (by decide) (fun c56 => ?_) (fun c56 => ?_)
    · replace h := h.1 c56
      exact r_vret dX0_putSupport_146 rfl ⟨rfl, rfl, h⟩
    · replace h := h.2 c56
      refine r_iload 5 dX0_putSupport_93 rfl ?_
      refine r_if_ne (tgt := 146) dX0_putSupport_95 (by decide) (fun c57 => ?_) (fun c57 => ?_)
      · replace h := h.1 c57
        exact r_vret dX0_putSupport_146 rfl ⟨rfl, rfl, h⟩
      · replace h := h.2 c57
        refine r_aload_n 0 dX0_putSupport_98 rfl rfl ?_
        refine r_aload_n 1 dX0_putSupport_99 rfl rfl ?_
        refine r_aload_n 0 dX0_putSupport_100 rfl rfl ?_
        refine r_getf cls0 1 dX0_putSupport_101 (by decide) fl_RX0_17 rfl h1 h2 ?_
        refine r_iload_n 2 dX0_putSupport_104 rfl rfl ?_
        obtain ⟨h58, h⟩ := h
        obtain ⟨n59, h⟩ := h
        obtain ⟨h60, h⟩ := h
        obtain ⟨h61, h⟩ := h
        obtain ⟨h62, h⟩ := h
        refine r_aald 24 n59 (by decide) dX0_putSupport_105 h58 h60 h61 h62 ?_
        obtain ⟨h63, h⟩ := h
        obtain ⟨h64, h⟩ := h
        refine r_getf cls7 1 dX0_putSupport_106 (by decide) fl_RX0_68 rfl h63 h64 ?_
        obtain ⟨h65, h⟩ := h
        obtain ⟨h66, h⟩ := h
        refine r_aald 23 n50 (by decide) dX0_putSupport_109 h49 h51 h65 h66 ?_
        refine r_aload_n 0 dX0_putSupport_110 rfl rfl ?_
        refine r_getf cls0 11 dX0_putSupport_111 (by decide) fl_RX0_61 rfl h1 h2 ?_
        refine r_invV (M := mX0_putSupport) (As := [(2, (H54 (v1 : Int).toNat ((H54 ((H54 ((H54 (v0 : Int).toNat 1) : Int).toNat (v2 : Int).toNat) : Int).toNat 1) : Int).toNat)), (2, (H54 (v0 : Int).toNat 11))]) (st := []) (X := v0) (mc := 0) (ms := 0) (fc := 0) (fs := 0) h ok_X0_putHog cls0 im_X0_putHog se_X0_putHog ml_RX0_144 dX0_putSupport_114 rfl h1 h2 (Nat.le_of_ble_eq_true rfl) rfl ?_
        rintro r K1 H67 ⟨rfl, rfl, h⟩ -
        show Fr mX0_putSupport (d + 1) 0 0 none 117 [(0, (2, v0)), (1, (2, v1)), (2, (0, v2)), (3, (2, v3)), (4, (0, v4)), (5, (0, v5))] [] _ H67 _
        refine r_aload_n 0 dX0_putSupport_117 rfl rfl ?_
        refine r_getf cls0 11 dX0_putSupport_118 (by decide) fl_RX0_61 rfl h1 h2 ?_
        refine r_aload_n 3 dX0_putSupport_121 rfl rfl ?_
        obtain ⟨h69, h⟩ := h
        obtain ⟨h70, h⟩ := h
        refine r_invV (M := mX0_putSupport) (As := [(2, v3)]) (st := []) (X := (H67 (v0 : Int).toNat 11)) (mc := 0) (ms := 0) (fc := 0) (fs := 0) h ok_X5_isUnder cls5 im_X5_isUnder se_X5_isUnder ml_RX0_147 dX0_putSupport_122 rfl h69 h70 (Nat.le_of_ble_eq_true rfl) rfl ?_
        rintro r K1 H71 ⟨rfl, x72, rfl, h⟩ -
        show Fr mX0_putSupport (d + 1) 0 0 none 125 [(0, (2, v0)), (1, (2, v1)), (2, (0, v2)), (3, (2, v3)), (4, (0, v4)), (5, (0, v5))] [(0, x72)] _ H71 _
        refine r_if_eq (tgt := 146) dX0_putSupport_125 (by decide) (fun c73 => ?_) (fun c73 => ?_)
        · replace h := h.1 c73
          exact r_vret dX0_putSupport_146 rfl ⟨rfl, rfl, h⟩
        · replace h := h.2 c73
          refine r_aload_n 3 dX0_putSupport_128 rfl rfl ?_
          refine r_aload_n 0 dX0_putSupport_129 rfl rfl ?_
          refine r_getf cls0 11 dX0_putSupport_130 (by decide) fl_RX0_61 rfl h1 h2 ?_
          obtain ⟨h74, h⟩ := h
          obtain ⟨h75, h⟩ := h
          refine r_getf cls5 0 dX0_putSupport_133 (by decide) fl_RX0_133 rfl h74 h75 ?_
          refine r_aload_n 0 dX0_putSupport_136 rfl rfl ?_
          refine r_getf cls0 11 dX0_putSupport_137 (by decide) fl_RX0_61 rfl h1 h2 ?_
          refine r_getf cls5 1 dX0_putSupport_140 (by decide) fl_RX0_137 rfl h74 h75 ?_
          obtain ⟨h76, h⟩ := h
          obtain ⟨h77, h⟩ := h
          refine r_invV (M := mX0_putSupport) (As := [(1, (H71 ((H71 (v0 : Int).toNat 11) : Int).toNat 0)), (1, (H71 ((H71 (v0 : Int).toNat 11) : Int).toNat 1))]) (st := []) (X := v3) (mc := 0) (ms := 0) (fc := 0) (fs := 0) h ok_X5_put cls5 im_X5_put se_X5_put ml_RX0_140 dX0_putSupport_143 rfl h76 h77 (Nat.le_of_ble_eq_true rfl) rfl ?_
          rintro r K1 H78 ⟨rfl, rfl, h⟩ -
          show Fr mX0_putSupport (d + 1) 0 0 none 146 [(0, (2, v0)), (1, (2, v1)), (2, (0, v2)), (3, (2, v3)), (4, (0, v4)), (5, (0, v5))] [] _ H78 _
          exact r_vret dX0_putSupport_146 rfl ⟨rfl, rfl, h⟩
set_option maxHeartbeats 4000000 in
set_option maxRecDepth 20000 in
theorem eX0_putSupport {d : Nat} {K : Shp} {H : Mem} {q : Mem → Prop} {v0 v1 v2 v3 : Int} (h : inI v2 → Rng K H → FX0_putSupport_0 d K H q v0 v1 v2 v3) : Cv mX0_putSupport (d + 1) [(2, v0), (2, v1), (0, v2), (2, v3)] K H q := Call.of rfl (Nat.le_of_ble_eq_true rfl) (fun o r => h (o (0, v2) (by simp)) r)
