/-! printed by gen/emit.py: what a walk from each cut point asks -/
def FX9_arm_0 (d : Nat) (K : Shp) (H : Mem) (q : Mem → Prop) (v0 : Int) (v1 : Int) (v2 : Int) : Prop := Fr mX9_arm (d + 1) 0 0 none 0 [(0, (2, v0)), (1, (2, v1)), (2, (2, v2))] [] K H (qv K q)
def FX9_arm_16 (d : Nat) (K : Shp) (H : Mem) (q : Mem → Prop) (v0 : Int) (v1 : Int) (v2 : Int) (v3 : Int) (v4 : Int) (v6 : Int) : Prop := Fr mX9_arm (d + 1) 0 0 none 16 [(0, (2, v0)), (1, (2, v1)), (2, (2, v2)), (3, (0, v3)), (4, (1, v4)), (6, (0, v6))] [] K H (qv K q)
set_option maxHeartbeats 4000000 in
set_option maxRecDepth 20000 in
theorem bX9_arm_0 {d : Nat} {K : Shp} {H : Mem} {q : Mem → Prop} {v0 v1 v2 : Int} (h : ((0 : Int) ≤ v0) ∧ (K[(v0 : Int).toNat]? = some (9, 6)) ∧ Cv mJ7_fill_53178 d [(2, (H (v0 : Int).toNat 2)), (0, 0)] K H (fun H3 => FX9_arm_16 d K H3 q (v0) (v1) (v2) (0) (0) (0))) : FX9_arm_0 d K H q (v0) (v1) (v2) := by
  unfold FX9_arm_0
  refine r_iconst dX9_arm_0 (by decide) (by decide) ?_
  refine r_istore_n dX9_arm_1 rfl (by decide) rfl ?_
  refine r_lconst0 dX9_arm_2 ?_
  refine r_lstore dX9_arm_3 (by decide) rfl ?_
  refine r_aload_n 2 dX9_arm_5 rfl rfl ?_
  obtain ⟨h1, h⟩ := h
  obtain ⟨h2, h⟩ := h
  refine r_getf cls9 2 dX9_arm_6 (by decide) fl_RX9_21 rfl h1 h2 ?_
  refine r_iconst dX9_arm_9 (by decide) (by decide) ?_
  refine r_invS (M := mX9_arm) (As := [(2, (H (v0 : Int).toNat 2)), (0, 0)]) (st := []) (mc := 0) (ms := 0) (fc := 0) (fs := 0) h ok_J7_fill_53178 sm_J7_fill_53178 ml_RX9_36 dX9_arm_10 rfl (Nat.le_of_ble_eq_true rfl) rfl ?_
  rintro r K1 H3 ⟨rfl, rfl, h⟩ -
  show Fr mX9_arm (d + 1) 0 0 none 13 [(4, (1, 0)), (3, (0, 0)), (0, (2, v0)), (1, (2, v1)), (2, (2, v2))] [] _ H3 _
  refine r_iconst dX9_arm_13 (by decide) (by decide) ?_
  refine r_istore dX9_arm_14 (by decide) rfl ?_
  refine Fr.fewer [3, 4, 5, 2, 1, 0] rfl ?_
  exact h
set_option maxHeartbeats 4000000 in
set_option maxRecDepth 20000 in
theorem bX9_arm_16 {d : Nat} {K : Shp} {H : Mem} {q : Mem → Prop} {v0 v1 v2 v3 v4 v6 : Int} (h : ((0 : Int) ≤ v1) ∧ (K[(v1 : Int).toNat]? = some (4, 18)) ∧ ((¬ (v6 : Int) < (H (v1 : Int).toNat 7) → (inI (-v3)) ∧ ((0 : Int) ≤ v0) ∧ (K[(v0 : Int).toNat]? = some (9, 6)) ∧ ∀ H7 : Mem, H7 = upA H (v0 : Int).toNat (up1 (H (v0 : Int).toNat) 3 (-v3)) → (inI ((H7 (v1 : Int).toNat 2) + v3)) ∧ ∀ H9 : Mem, H9 = upA H7 (v0 : Int).toNat (up1 (H7 (v0 : Int).toNat) 4 ((H7 (v1 : Int).toNat 2) + v3)) → (inL (2 * v4)) ∧ ∀ H11 : Mem, H11 = upA H9 (v0 : Int).toNat (up1 (H9 (v0 : Int).toNat) 5 (2 * v4)) → q H11) ∧ ((v6 : Int) < (H (v1 : Int).toNat 7) → ((0 : Int) ≤ v0) ∧ (K[(v0 : Int).toNat]? = some (9, 6)) ∧ ((0 : Int) ≤ (H (v1 : Int).toNat 13)) ∧ ∃ n15 : Nat, (K[((H (v1 : Int).toNat 13) : Int).toNat]? = some (20, n15)) ∧ ((0 : Int) ≤ v6) ∧ ((v6 : Int) < n15) ∧ ((0 : Int) ≤ (H (v0 : Int).toNat 2)) ∧ ∃ n20 : Nat, (K[((H (v0 : Int).toNat 2) : Int).toNat]? = some (20, n20)) ∧ ((0 : Int) ≤ (H ((H (v1 : Int).toNat 13) : Int).toNat (v6 : Int).toNat)) ∧ (((H ((H (v1 : Int).toNat 13) : Int).toNat (v6 : Int).toNat) : Int) < n20) ∧ ((0 : Int) ≤ v2) ∧ ∃ n25 : Nat, (K[(v2 : Int).toNat]? = some (20, n25)) ∧ ((v6 : Int) < n25) ∧ (inI (2 * (H (v2 : Int).toNat (v6 : Int).toNat))) ∧ (inI ((H ((H (v0 : Int).toNat 2) : Int).toNat ((H ((H (v1 : Int).toNat 13) : Int).toNat (v6 : Int).toNat) : Int).toNat) + (2 * (H (v2 : Int).toNat (v6 : Int).toNat)))) ∧ ∀ H30 : Mem, H30 = upA H ((H (v0 : Int).toNat 2) : Int).toNat (up1 (H ((H (v0 : Int).toNat 2) : Int).toNat) ((H ((H (v1 : Int).toNat 13) : Int).toNat (v6 : Int).toNat) : Int).toNat ((H ((H (v0 : Int).toNat 2) : Int).toNat ((H ((H (v1 : Int).toNat 13) : Int).toNat (v6 : Int).toNat) : Int).toNat) + (2 * (H (v2 : Int).toNat (v6 : Int).toNat)))) → (inI (v3 + (H30 (v2 : Int).toNat (v6 : Int).toNat))) ∧ ((0 : Int) ≤ (H30 (v1 : Int).toNat 8)) ∧ ∃ n33 : Nat, (K[((H30 (v1 : Int).toNat 8) : Int).toNat]? = some (20, n33)) ∧ ((v6 : Int) < n33) ∧ (inI ((H30 ((H30 (v1 : Int).toNat 8) : Int).toNat (v6 : Int).toNat) - (H30 (v1 : Int).toNat 1))) ∧ (inL ((H30 (v2 : Int).toNat (v6 : Int).toNat) * ((H30 ((H30 (v1 : Int).toNat 8) : Int).toNat (v6 : Int).toNat) - (H30 (v1 : Int).toNat 1)))) ∧ (inL (v4 - ((H30 (v2 : Int).toNat (v6 : Int).toNat) * ((H30 ((H30 (v1 : Int).toNat 8) : Int).toNat (v6 : Int).toNat) - (H30 (v1 : Int).toNat 1))))) ∧ (inI (v6 + 1)) ∧ FX9_arm_16 d K H30 q (v0) (v1) (v2) ((v3 + (H30 (v2 : Int).toNat (v6 : Int).toNat))) ((v4 - ((H30 (v2 : Int).toNat (v6 : Int).toNat) * ((H30 ((H30 (v1 : Int).toNat 8) : Int).toNat (v6 : Int).toNat) - (H30 (v1 : Int).toNat 1))))) ((v6 + 1))))) : FX9_arm_16 d K H q (v0) (v1) (v2) (v3) (v4) (v6) := by
  unfold FX9_arm_16
  refine r_iload 5 dX9_arm_16 rfl ?_
  refine r_aload_n 1 dX9_arm_18 rfl rfl ?_
  obtain ⟨h1, h⟩ := h
  obtain ⟨h2, h⟩ := h
  refine r_getf cls4 7 dX9_arm_19 (by decide) fl_RX9_42 rfl h1 h2 ?_
  refine r_icmp_ge (tgt := 83) dX9_arm_22 (by decide) (fun c3 => ?_) (fun c3 => ?_)
  · replace h := h.1 c3
    refine r_aload_n 0 dX9_arm_83 rfl rfl ?_
    refine r_iload_n 3 dX9_arm_84 rfl rfl ?_
    obtain ⟨h4, h⟩ := h
    refine r_ineg dX9_arm_85 h4 ?_
    obtain ⟨h5, h⟩ := h
    obtain ⟨h6, h⟩ := h
    refine r_putf cls9 3 dX9_arm_86 (by decide) rfl fl_RX9_25 rfl h5 h6 (fun o => o) ?_
    replace h := h _ rfl
    generalize upA H (v0 : Int).toNat (up1 (H (v0 : Int).toNat) 3 (-v3)) = H7 at h ⊢
    refine r_aload_n 0 dX9_arm_89 rfl rfl ?_
    refine r_aload_n 1 dX9_arm_90 rfl rfl ?_
    refine r_getf cls4 2 dX9_arm_91 (by decide) fl_RX9_54 rfl h1 h2 ?_
    refine r_iload_n 3 dX9_arm_94 rfl rfl ?_
    obtain ⟨h8, h⟩ := h
    refine r_iadd dX9_arm_95 h8 ?_
    refine r_putf cls9 4 dX9_arm_96 (by decide) rfl fl_RX9_29 rfl h5 h6 (fun o => o) ?_
    replace h := h _ rfl
    generalize upA H7 (v0 : Int).toNat (up1 (H7 (v0 : Int).toNat) 4 ((H7 (v1 : Int).toNat 2) + v3)) = H9 at h ⊢
    refine r_aload_n 0 dX9_arm_99 rfl rfl ?_
    refine r_ldc2 (x := 2) dX9_arm_100 kl_RX9_57 (by decide) (by decide) ?_
    refine r_lload 4 dX9_arm_103 rfl ?_
    obtain ⟨h10, h⟩ := h
    refine r_lmul dX9_arm_105 h10 ?_
    refine r_putf cls9 5 dX9_arm_106 (by decide) rfl fl_RX9_32 rfl h5 h6 (fun o => o) ?_
    replace h := h _ rfl
    generalize upA H9 (v0 : Int).toNat (up1 (H9 (v0 : Int).toNat) 5 (2 * v4)) = H11 at h ⊢
    exact r_vret dX9_arm_109 rfl ⟨rfl, rfl, h⟩
  · replace h := h.2 c3
    refine r_aload_n 0 dX9_arm_25 rfl rfl ?_
    obtain ⟨h12, h⟩ := h
    obtain ⟨h13, h⟩ := h
    refine r_getf cls9 2 dX9_arm_26 (by decide) fl_RX9_21 rfl h12 h13 ?_
    refine r_aload_n 1 dX9_arm_29 rfl rfl ?_
    refine r_getf cls4 13 dX9_arm_30 (by decide) fl_RX9_45 rfl h1 h2 ?_
    refine r_iload 5 dX9_arm_33 rfl ?_
    obtain ⟨h14, h⟩ := h
    obtain ⟨n15, h⟩ := h
    obtain ⟨h16, h⟩ := h
    obtain ⟨h17, h⟩ := h
    obtain ⟨h18, h⟩ := h
    refine r_iald n15 dX9_arm_35 h14 h16 h17 h18 ?_
    refine r_dup2 dX9_arm_36 (show (0 : Nat) ≠ 1 by decide) (show (2 : Nat) ≠ 1 by decide) ?_
    obtain ⟨h19, h⟩ := h
    obtain ⟨n20, h⟩ := h
    obtain ⟨h21, h⟩ := h
    obtain ⟨h22, h⟩ := h
    obtain ⟨h23, h⟩ := h
    refine r_iald n20 dX9_arm_37 h19 h21 h22 h23 ?_
    refine r_iconst dX9_arm_38 (by decide) (by decide) ?_
    refine r_aload_n 2 dX9_arm_39 rfl rfl ?_
    refine r_iload 5 dX9_arm_40 rfl ?_
    obtain ⟨h24, h⟩ := h
    obtain ⟨n25, h⟩ := h
    obtain ⟨h26, h⟩ := h
    obtain ⟨h27, h⟩ := h
    refine r_iald n25 dX9_arm_42 h24 h26 h17 h27 ?_
    obtain ⟨h28, h⟩ := h
    refine r_imul dX9_arm_43 h28 ?_
    obtain ⟨h29, h⟩ := h
    refine r_iadd dX9_arm_44 h29 ?_
    refine r_iast n20 dX9_arm_45 h19 h21 h22 h23 ?_
    replace h := h _ rfl
    generalize upA H ((H (v0 : Int).toNat 2) : Int).toNat (up1 (H ((H (v0 : Int).toNat 2) : Int).toNat) ((H ((H (v1 : Int).toNat 13) : Int).toNat (v6 : Int).toNat) : Int).toNat ((H ((H (v0 : Int).toNat 2) : Int).toNat ((H ((H (v1 : Int).toNat 13) : Int).toNat (v6 : Int).toNat) : Int).toNat) + (2 * (H (v2 : Int).toNat (v6 : Int).toNat)))) = H30 at h ⊢
    refine r_iload_n 3 dX9_arm_46 rfl rfl ?_
    refine r_aload_n 2 dX9_arm_47 rfl rfl ?_
    refine r_iload 5 dX9_arm_48 rfl ?_
    refine r_iald n25 dX9_arm_50 h24 h26 h17 h27 ?_
    obtain ⟨h31, h⟩ := h
    refine r_iadd dX9_arm_51 h31 ?_
    refine r_istore_n dX9_arm_52 rfl (by decide) rfl ?_
    refine r_lload 4 dX9_arm_53 rfl ?_
    refine r_aload_n 3 dX9_arm_55 rfl rfl ?_
    refine r_iload 5 dX9_arm_56 rfl ?_
    refine r_iald n25 dX9_arm_58 h24 h26 h17 h27 ?_
    refine r_i2l dX9_arm_59 ?_
    refine r_aload_n 2 dX9_arm_60 rfl rfl ?_
    refine r_getf cls4 8 dX9_arm_61 (by decide) fl_RX9_48 rfl h1 h2 ?_
    refine r_iload 5 dX9_arm_64 rfl ?_
    obtain ⟨h32, h⟩ := h
    obtain ⟨n33, h⟩ := h
    obtain ⟨h34, h⟩ := h
    obtain ⟨h35, h⟩ := h
    refine r_iald n33 dX9_arm_66 h32 h34 h17 h35 ?_
    refine r_aload_n 2 dX9_arm_67 rfl rfl ?_
    refine r_getf cls4 1 dX9_arm_68 (by decide) fl_RX9_51 rfl h1 h2 ?_
    obtain ⟨h36, h⟩ := h
    refine r_isub dX9_arm_71 h36 ?_
    refine r_i2l dX9_arm_72 ?_
    obtain ⟨h37, h⟩ := h
    refine r_lmul dX9_arm_73 h37 ?_
    obtain ⟨h38, h⟩ := h
    refine r_lsub dX9_arm_74 h38 ?_
    refine r_lstore dX9_arm_75 (by decide) rfl ?_
    obtain ⟨h39, h⟩ := h
    refine r_iinc 5 dX9_arm_77 (by decide) rfl h39 rfl ?_
    refine r_goto (tgt := 16) dX9_arm_80 (by decide) ?_
    refine Fr.fewer [3, 4, 5, 2, 1, 0] rfl ?_
    exact h
set_option maxHeartbeats 4000000 in
set_option maxRecDepth 20000 in
theorem eX9_arm {d : Nat} {K : Shp} {H : Mem} {q : Mem → Prop} {v0 v1 v2 : Int} (h : Rng K H → FX9_arm_0 d K H q v0 v1 v2) : Cv mX9_arm (d + 1) [(2, v0), (2, v1), (2, v2)] K H q := Call.of rfl (Nat.le_of_ble_eq_true rfl) (fun o r => h  r)
def FX9_reaches_0 (d : Nat) (K : Shp) (H : Mem) (q : Int → Mem → Prop) (v0 : Int) (v1 : Int) : Prop := Fr mX9_reaches d 0 0 none 0 [(0, (2, v0)), (1, (0, v1))] [] K H (qi K q)
set_option maxHeartbeats 4000000 in
set_option maxRecDepth 20000 in
theorem bX9_reaches_0 {d : Nat} {K : Shp} {H : Mem} {q : Int → Mem → Prop} {v0 v1 : Int} (h : ((0 : Int) ≤ v0) ∧ (K[(v0 : Int).toNat]? = some (9, 6)) ∧ ((¬ ((H (v0 : Int).toNat 3) : Int) ≤ v1 → q 0 H) ∧ (((H (v0 : Int).toNat 3) : Int) ≤ v1 → ((¬ (v1 : Int) ≤ (H (v0 : Int).toNat 4) → q 0 H) ∧ ((v1 : Int) ≤ (H (v0 : Int).toNat 4) → q 1 H))))) : FX9_reaches_0 d K H q (v0) (v1) := by
  unfold FX9_reaches_0
  refine r_aload_n 0 dX9_reaches_0 rfl rfl ?_
  obtain ⟨h1, h⟩ := h
  obtain ⟨h2, h⟩ := h
  refine r_getf cls9 3 dX9_reaches_1 (by decide) fl_RX9_25 rfl h1 h2 ?_
  refine r_iload_n 1 dX9_reaches_4 rfl rfl ?_
  refine r_icmp_gt (tgt := 20) dX9_reaches_5 (by decide) (fun c3 => ?_) (fun c3 => ?_)
  · replace h := h.1 c3
    refine r_iconst dX9_reaches_20 (by decide) (by decide) ?_
    exact r_zret dX9_reaches_21 rfl (Or.inl rfl) ⟨rfl, _, rfl, h⟩
  · replace h := h.2 c3
    refine r_iload_n 1 dX9_reaches_8 rfl rfl ?_
    refine r_aload_n 0 dX9_reaches_9 rfl rfl ?_
    refine r_getf cls9 4 dX9_reaches_10 (by decide) fl_RX9_29 rfl h1 h2 ?_
    refine r_icmp_gt (tgt := 20) dX9_reaches_13 (by decide) (fun c4 => ?_) (fun c4 => ?_)
    · replace h := h.1 c4
      refine r_iconst dX9_reaches_20 (by decide) (by decide) ?_
      exact r_zret dX9_reaches_21 rfl (Or.inl rfl) ⟨rfl, _, rfl, h⟩
    · replace h := h.2 c4
      refine r_iconst dX9_reaches_16 (by decide) (by decide) ?_
      refine r_goto (tgt := 21) dX9_reaches_17 (by decide) ?_
      exact r_zret dX9_reaches_21 rfl (Or.inr rfl) ⟨rfl, _, rfl, h⟩
set_option maxHeartbeats 4000000 in
set_option maxRecDepth 20000 in
theorem eX9_reaches {d : Nat} {K : Shp} {H : Mem} {q : Int → Mem → Prop} {v0 v1 : Int} (h : inI v1 → Rng K H → FX9_reaches_0 d K H q v0 v1) : Ci mX9_reaches d [(2, v0), (0, v1)] K H q := Call.of rfl (Nat.le_of_ble_eq_true rfl) (fun o r => h (o (0, v1) (by simp)) r)
def FX9_bearsOn_0 (d : Nat) (K : Shp) (H : Mem) (q : Int → Mem → Prop) (v0 : Int) (v1 : Int) (v2 : Int) (v3 : Int) (v4 : Int) : Prop := Fr mX9_bearsOn (d + 1) 0 0 none 0 [(0, (2, v0)), (1, (2, v1)), (2, (0, v2)), (3, (0, v3)), (4, (0, v4))] [] K H (qi K q)
set_option maxHeartbeats 4000000 in
set_option maxRecDepth 20000 in
theorem bX9_bearsOn_0 {d : Nat} {K : Shp} {H : Mem} {q : Int → Mem → Prop} {v0 v1 v2 v3 v4 : Int} (h : ((0 : Int) ≤ v0) ∧ (K[(v0 : Int).toNat]? = some (9, 6)) ∧ Ci mX9_reaches d [(2, v0), (0, v2)] K H (fun x4 H3 => ((¬ (x4 : Int) = 0 → Cv mX9_fill d [(2, v0), (2, v1), (0, v2), (0, v4)] K H3 (fun H6 => ((0 : Int) ≤ (H6 (v0 : Int).toNat 0)) ∧ (K[((H6 (v0 : Int).toNat 0) : Int).toNat]? = some (5, 2)) ∧ (inL (v3 * (H6 ((H6 (v0 : Int).toNat 0) : Int).toNat 1))) ∧ (((v4 : Int) = 0 → ((((v3 * (H6 ((H6 (v0 : Int).toNat 0) : Int).toNat 1)) : Int) < (H6 ((H6 (v0 : Int).toNat 0) : Int).toNat 0) → q 0 H6) ∧ (¬ ((v3 * (H6 ((H6 (v0 : Int).toNat 0) : Int).toNat 1)) : Int) < (H6 ((H6 (v0 : Int).toNat 0) : Int).toNat 0) → q 1 H6))) ∧ (¬ (v4 : Int) = 0 → ((¬ ((v3 * (H6 ((H6 (v0 : Int).toNat 0) : Int).toNat 1)) : Int) ≤ (H6 ((H6 (v0 : Int).toNat 0) : Int).toNat 0) → q 0 H6) ∧ (((v3 * (H6 ((H6 (v0 : Int).toNat 0) : Int).toNat 1)) : Int) ≤ (H6 ((H6 (v0 : Int).toNat 0) : Int).toNat 0) → q 1 H6)))))) ∧ ((x4 : Int) = 0 → q 0 H3)))) : FX9_bearsOn_0 d K H q (v0) (v1) (v2) (v3) (v4) := by
  unfold FX9_bearsOn_0
  refine r_aload_n 0 dX9_bearsOn_0 rfl rfl ?_
  refine r_iload_n 2 dX9_bearsOn_1 rfl rfl ?_
  obtain ⟨h1, h⟩ := h
  obtain ⟨h2, h⟩ := h
  refine r_invV (M := mX9_bearsOn) (As := [(0, v2)]) (st := []) (X := v0) (mc := 0) (ms := 0) (fc := 0) (fs := 0) h ok_X9_reaches cls9 im_X9_reaches se_X9_reaches ml_RX9_59 dX9_bearsOn_2 rfl h1 h2 (Nat.le_of_ble_eq_true rfl) rfl ?_
  rintro r K1 H3 ⟨rfl, x4, rfl, h⟩ -
  show Fr mX9_bearsOn (d + 1) 0 0 none 5 [(0, (2, v0)), (1, (2, v1)), (2, (0, v2)), (3, (0, v3)), (4, (0, v4))] [(0, x4)] _ H3 _
  refine r_if_ne (tgt := 10) dX9_bearsOn_5 (by decide) (fun c5 => ?_) (fun c5 => ?_)
  · replace h := h.1 c5
    refine r_aload_n 0 dX9_bearsOn_10 rfl rfl ?_
    refine r_aload_n 1 dX9_bearsOn_11 rfl rfl ?_
    refine r_iload_n 2 dX9_bearsOn_12 rfl rfl ?_
    refine r_iload 4 dX9_bearsOn_13 rfl ?_
    refine r_invV (M := mX9_bearsOn) (As := [(2, v1), (0, v2), (0, v4)]) (st := []) (X := v0) (mc := 0) (ms := 0) (fc := 0) (fs := 0) h ok_X9_fill cls9 im_X9_fill se_X9_fill ml_RX9_63 dX9_bearsOn_15 rfl h1 h2 (Nat.le_of_ble_eq_true rfl) rfl ?_
    rintro r K1 H6 ⟨rfl, rfl, h⟩ -
    show Fr mX9_bearsOn (d + 1) 0 0 none 18 [(0, (2, v0)), (1, (2, v1)), (2, (0, v2)), (3, (0, v3)), (4, (0, v4))] [] _ H6 _
    refine r_iload_n 3 dX9_bearsOn_18 rfl rfl ?_
    refine r_i2l dX9_bearsOn_19 ?_
    refine r_aload_n 0 dX9_bearsOn_20 rfl rfl ?_
    refine r_getf cls9 0 dX9_bearsOn_21 (by decide) fl_RX9_10 rfl h1 h2 ?_
    obtain ⟨h8, h⟩ := h
    obtain ⟨h9, h⟩ := h
    refine r_getf cls5 1 dX9_bearsOn_24 (by decide) fl_RX9_66 rfl h8 h9 ?_
    obtain ⟨h10, h⟩ := h
    refine r_lmul dX9_bearsOn_27 h10 ?_
    refine r_lstore dX9_bearsOn_28 (by decide) rfl ?_
    refine r_iload 5 dX9_bearsOn_30 rfl ?_
    refine r_if_eq (tgt := 56) dX9_bearsOn_32 (by decide) (fun c11 => ?_) (fun c11 => ?_)
    · replace h := h.1 c11
      refine r_lload 0 dX9_bearsOn_56 rfl ?_
      refine r_aload_n 1 dX9_bearsOn_58 rfl rfl ?_
      refine r_getf cls9 0 dX9_bearsOn_59 (by decide) fl_RX9_10 rfl h1 h2 ?_
      refine r_getf cls5 0 dX9_bearsOn_62 (by decide) fl_RX9_69 rfl h8 h9 ?_
      refine r_lcmp dX9_bearsOn_65 ?_
      refine r_if_lt (tgt := 73) dX9_bearsOn_66 (by decide) (fun c12 => ?_) (fun c12 => ?_)
      · replace h := h.1 (cmpL_lt.mp c12)
        refine r_iconst dX9_bearsOn_73 (by decide) (by decide) ?_
        exact r_zret dX9_bearsOn_74 rfl (Or.inl rfl) ⟨rfl, _, rfl, h⟩
      · replace h := h.2 (fun q => c12 (cmpL_lt.mpr q))
        refine r_iconst dX9_bearsOn_69 (by decide) (by decide) ?_
        refine r_goto (tgt := 74) dX9_bearsOn_70 (by decide) ?_
        exact r_zret dX9_bearsOn_74 rfl (Or.inr rfl) ⟨rfl, _, rfl, h⟩
    · replace h := h.2 c11
      refine r_lload 0 dX9_bearsOn_35 rfl ?_
      refine r_aload_n 1 dX9_bearsOn_37 rfl rfl ?_
      refine r_getf cls9 0 dX9_bearsOn_38 (by decide) fl_RX9_10 rfl h1 h2 ?_
      refine r_getf cls5 0 dX9_bearsOn_41 (by decide) fl_RX9_69 rfl h8 h9 ?_
      refine r_lcmp dX9_bearsOn_44 ?_
      refine r_if_gt (tgt := 52) dX9_bearsOn_45 (by decide) (fun c13 => ?_) (fun c13 => ?_)
      · replace h := h.1 (fun q => c13 (cmpL_le.mpr q))
        refine r_iconst dX9_bearsOn_52 (by decide) (by decide) ?_
        refine r_goto (tgt := 74) dX9_bearsOn_53 (by decide) ?_
        exact r_zret dX9_bearsOn_74 rfl (Or.inl rfl) ⟨rfl, _, rfl, h⟩
      · replace h := h.2 (cmpL_le.mp c13)
        refine r_iconst dX9_bearsOn_48 (by decide) (by decide) ?_
        refine r_goto (tgt := 74) dX9_bearsOn_49 (by decide) ?_
        exact r_zret dX9_bearsOn_74 rfl (Or.inr rfl) ⟨rfl, _, rfl, h⟩
  · replace h := h.2 c5
    refine r_iconst dX9_bearsOn_8 (by decide) (by decide) ?_
    exact r_zret dX9_bearsOn_9 rfl (Or.inl rfl) ⟨rfl, _, rfl, h⟩
set_option maxHeartbeats 4000000 in
set_option maxRecDepth 20000 in
theorem eX9_bearsOn {d : Nat} {K : Shp} {H : Mem} {q : Int → Mem → Prop} {v0 v1 v2 v3 v4 : Int} (h : inI v2 → inI v3 → inI v4 → Rng K H → FX9_bearsOn_0 d K H q v0 v1 v2 v3 v4) : Ci mX9_bearsOn (d + 1) [(2, v0), (2, v1), (0, v2), (0, v3), (0, v4)] K H q := Call.of rfl (Nat.le_of_ble_eq_true rfl) (fun o r => h (o (0, v2) (by simp)) (o (0, v3) (by simp)) (o (0, v4) (by simp)) r)
def FX9_fill_0 (d : Nat) (K : Shp) (H : Mem) (q : Mem → Prop) (v0 : Int) (v1 : Int) (v2 : Int) (v3 : Int) : Prop := Fr mX9_fill (d + 1) 0 0 none 0 [(0, (2, v0)), (1, (2, v1)), (2, (0, v2)), (3, (0, v3))] [] K H (qv K q)
def FX9_fill_28 (d : Nat) (K : Shp) (H : Mem) (q : Mem → Prop) (v0 : Int) (v1 : Int) (v3 : Int) (v4 : Int) (v6 : Int) (v8 : Int) (v9 : Int) (v11 : Int) (v12 : Int) : Prop := Fr mX9_fill (d + 1) 0 0 none 28 [(0, (2, v0)), (1, (2, v1)), (3, (0, v3)), (4, (1, v4)), (6, (1, v6)), (8, (0, v8)), (9, (1, v9)), (11, (0, v11)), (12, (0, v12))] [] K H (qv K q)
def FX9_fill_264 (d : Nat) (K : Shp) (H : Mem) (q : Mem → Prop) (v0 : Int) (v1 : Int) (v3 : Int) (v4 : Int) (v6 : Int) (v8 : Int) (v9 : Int) : Prop := Fr mX9_fill (d + 1) 0 0 none 264 [(0, (2, v0)), (1, (2, v1)), (3, (0, v3)), (4, (1, v4)), (6, (1, v6)), (8, (0, v8)), (9, (1, v9))] [] K H (qv K q)
def FX9_fill_60 (d : Nat) (K : Shp) (H : Mem) (q : Mem → Prop) (v0 : Int) (v1 : Int) (v3 : Int) (v4 : Int) (v6 : Int) (v9 : Int) (v12 : Int) (s0 : Int) : Prop := Fr mX9_fill (d + 1) 0 0 none 60 [(0, (2, v0)), (1, (2, v1)), (3, (0, v3)), (4, (1, v4)), (6, (1, v6)), (9, (1, v9)), (12, (0, v12))] [(0, s0)] K H (qv K q)
def FX9_fill_276 (d : Nat) (K : Shp) (H : Mem) (q : Mem → Prop) (v0 : Int) (v1 : Int) (v4 : Int) (v6 : Int) (v8 : Int) (v9 : Int) (s0 : Int) : Prop := Fr mX9_fill (d + 1) 0 0 none 276 [(0, (2, v0)), (1, (2, v1)), (4, (1, v4)), (6, (1, v6)), (8, (0, v8)), (9, (1, v9))] [(1, s0)] K H (qv K q)
def FX9_fill_77 (d : Nat) (K : Shp) (H : Mem) (q : Mem → Prop) (v0 : Int) (v1 : Int) (v3 : Int) (v4 : Int) (v6 : Int) (v9 : Int) (v12 : Int) (v13 : Int) (s0 : Int) : Prop := Fr mX9_fill (d + 1) 0 0 none 77 [(0, (2, v0)), (1, (2, v1)), (3, (0, v3)), (4, (1, v4)), (6, (1, v6)), (9, (1, v9)), (12, (0, v12)), (13, (0, v13))] [(0, s0)] K H (qv K q)
def FX9_fill_156 (d : Nat) (K : Shp) (H : Mem) (q : Mem → Prop) (v0 : Int) (v1 : Int) (v3 : Int) (v4 : Int) (v6 : Int) (v8 : Int) (v9 : Int) (v12 : Int) (v13 : Int) (v14 : Int) (s0 : Int) : Prop := Fr mX9_fill (d + 1) 0 0 none 156 [(0, (2, v0)), (1, (2, v1)), (3, (0, v3)), (4, (1, v4)), (6, (1, v6)), (8, (0, v8)), (9, (1, v9)), (12, (0, v12)), (13, (0, v13)), (14, (0, v14))] [(0, s0)] K H (qv K q)
def FX9_fill_258 (d : Nat) (K : Shp) (H : Mem) (q : Mem → Prop) (v0 : Int) (v1 : Int) (v3 : Int) (v4 : Int) (v6 : Int) (v8 : Int) (v9 : Int) (v11 : Int) (v12 : Int) : Prop := Fr mX9_fill (d + 1) 0 0 none 258 [(0, (2, v0)), (1, (2, v1)), (3, (0, v3)), (4, (1, v4)), (6, (1, v6)), (8, (0, v8)), (9, (1, v9)), (11, (0, v11)), (12, (0, v12))] [] K H (qv K q)
def FX9_fill_210 (d : Nat) (K : Shp) (H : Mem) (q : Mem → Prop) (v0 : Int) (v1 : Int) (v3 : Int) (v4 : Int) (v6 : Int) (v8 : Int) (v9 : Int) (v12 : Int) (v14 : Int) (v17 : Int) (v18 : Int) (s0 : Int) : Prop := Fr mX9_fill (d + 1) 0 0 none 210 [(0, (2, v0)), (1, (2, v1)), (3, (0, v3)), (4, (1, v4)), (6, (1, v6)), (8, (0, v8)), (9, (1, v9)), (12, (0, v12)), (14, (0, v14)), (17, (0, v17)), (18, (1, v18))] [(0, s0)] K H (qv K q)
set_option maxHeartbeats 4000000 in
set_option maxRecDepth 20000 in
theorem bX9_fill_0 {d : Nat} {K : Shp} {H : Mem} {q : Mem → Prop} {v0 v1 v2 v3 : Int} (h : ((0 : Int) ≤ v0) ∧ (K[(v0 : Int).toNat]? = some (9, 6)) ∧ (inL (v2 - (H (v0 : Int).toNat 3))) ∧ FX9_fill_28 d K H q (v0) (v1) (v3) ((v2 - (H (v0 : Int).toNat 3))) ((H (v0 : Int).toNat 5)) (0) (1) (0) (0)) : FX9_fill_0 d K H q (v0) (v1) (v2) (v3) := by
  unfold FX9_fill_0
  refine r_iload_n 2 dX9_fill_0 rfl rfl ?_
  refine r_i2l dX9_fill_1 ?_
  refine r_aload_n 0 dX9_fill_2 rfl rfl ?_
  obtain ⟨h1, h⟩ := h
  obtain ⟨h2, h⟩ := h
  refine r_getf cls9 3 dX9_fill_3 (by decide) fl_RX9_25 rfl h1 h2 ?_
  refine r_i2l dX9_fill_6 ?_
  obtain ⟨h3, h⟩ := h
  refine r_lsub dX9_fill_7 h3 ?_
  refine r_lstore dX9_fill_8 (by decide) rfl ?_
  refine r_aload_n 1 dX9_fill_10 rfl rfl ?_
  refine r_getf cls9 5 dX9_fill_11 (by decide) fl_RX9_32 rfl h1 h2 ?_
  refine r_lstore dX9_fill_14 (by decide) rfl ?_
  refine r_iconst dX9_fill_16 (by decide) (by decide) ?_
  refine r_istore dX9_fill_17 (by decide) rfl ?_
  refine r_lconst1 dX9_fill_19 ?_
  refine r_lstore dX9_fill_20 (by decide) rfl ?_
  refine r_iconst dX9_fill_22 (by decide) (by decide) ?_
  refine r_istore dX9_fill_23 (by decide) rfl ?_
  refine r_iconst dX9_fill_25 (by decide) (by decide) ?_
  refine r_istore dX9_fill_26 (by decide) rfl ?_
  refine Fr.fewer [6, 7, 9, 5, 4, 3, 2, 1, 0] rfl ?_
  exact h
set_option maxHeartbeats 4000000 in
set_option maxRecDepth 20000 in
theorem bX9_fill_28 {d : Nat} {K : Shp} {H : Mem} {q : Mem → Prop} {v0 v1 v3 v4 v6 v8 v9 v11 v12 : Int} (h : ((0 : Int) ≤ v1) ∧ (K[(v1 : Int).toNat]? = some (4, 18)) ∧ ((¬ (v12 : Int) < (H (v1 : Int).toNat 10) → FX9_fill_264 d K H q (v0) (v1) (v3) (v4) (v6) (v8) (v9)) ∧ ((v12 : Int) < (H (v1 : Int).toNat 10) → ((¬ (v11 : Int) = 0 → FX9_fill_264 d K H q (v0) (v1) (v3) (v4) (v6) (v8) (v9)) ∧ ((v11 : Int) = 0 → (((v3 : Int) = 0 → FX9_fill_60 d K H q (v0) (v1) (v3) (v4) (v6) (v9) (v12) (v12)) ∧ (¬ (v3 : Int) = 0 → (inI ((H (v1 : Int).toNat 10) - 1)) ∧ (inI (((H (v1 : Int).toNat 10) - 1) - v12)) ∧ FX9_fill_60 d K H q (v0) (v1) (v3) (v4) (v6) (v9) (v12) ((((H (v1 : Int).toNat 10) - 1) - v12))))))))) : FX9_fill_28 d K H q (v0) (v1) (v3) (v4) (v6) (v8) (v9) (v11) (v12) := by
  unfold FX9_fill_28
  refine r_iload 8 dX9_fill_28 rfl ?_
  refine r_aload_n 1 dX9_fill_30 rfl rfl ?_
  obtain ⟨h1, h⟩ := h
  obtain ⟨h2, h⟩ := h
  refine r_getf cls4 10 dX9_fill_31 (by decide) fl_RX9_72 rfl h1 h2 ?_
  refine r_icmp_ge (tgt := 264) dX9_fill_34 (by decide) (fun c3 => ?_) (fun c3 => ?_)
  · replace h := h.1 c3
    refine Fr.fewer [0, 1, 2, 3, 4, 5, 6] rfl ?_
    exact h
  · replace h := h.2 c3
    refine r_iload 7 dX9_fill_37 rfl ?_
    refine r_if_ne (tgt := 264) dX9_fill_39 (by decide) (fun c4 => ?_) (fun c4 => ?_)
    · replace h := h.1 c4
      refine Fr.fewer [0, 1, 2, 3, 4, 5, 6] rfl ?_
      exact h
    · replace h := h.2 c4
      refine r_iload_n 2 dX9_fill_42 rfl rfl ?_
      refine r_if_eq (tgt := 58) dX9_fill_43 (by decide) (fun c5 => ?_) (fun c5 => ?_)
      · replace h := h.1 c5
        refine r_iload 8 dX9_fill_58 rfl ?_
        refine Fr.fewer [0, 1, 2, 3, 4, 6, 8] rfl ?_
        exact h
      · replace h := h.2 c5
        refine r_aload_n 1 dX9_fill_46 rfl rfl ?_
        refine r_getf cls4 10 dX9_fill_47 (by decide) fl_RX9_72 rfl h1 h2 ?_
        refine r_iconst dX9_fill_50 (by decide) (by decide) ?_
        obtain ⟨h6, h⟩ := h
        refine r_isub dX9_fill_51 h6 ?_
        refine r_iload 8 dX9_fill_52 rfl ?_
        obtain ⟨h7, h⟩ := h
        refine r_isub dX9_fill_54 h7 ?_
        refine r_goto (tgt := 60) dX9_fill_55 (by decide) ?_
        refine Fr.fewer [0, 1, 2, 3, 4, 6, 8] rfl ?_
        exact h
set_option maxHeartbeats 4000000 in
set_option maxRecDepth 20000 in
theorem bX9_fill_264 {d : Nat} {K : Shp} {H : Mem} {q : Mem → Prop} {v0 v1 v3 v4 v6 v8 v9 : Int} (h : (((v3 : Int) = 0 → FX9_fill_276 d K H q (v0) (v1) (v4) (v6) (v8) (v9) (v4)) ∧ (¬ (v3 : Int) = 0 → (inL (-v4)) ∧ FX9_fill_276 d K H q (v0) (v1) (v4) (v6) (v8) (v9) ((-v4))))) : FX9_fill_264 d K H q (v0) (v1) (v3) (v4) (v6) (v8) (v9) := by
  unfold FX9_fill_264
  refine r_iload_n 2 dX9_fill_264 rfl rfl ?_
  refine r_if_eq (tgt := 274) dX9_fill_265 (by decide) (fun c1 => ?_) (fun c1 => ?_)
  · replace h := h.1 c1
    refine r_lload 3 dX9_fill_274 rfl ?_
    refine Fr.fewer [0, 1, 3, 4, 5, 6] rfl ?_
    exact h
  · replace h := h.2 c1
    refine r_lload 3 dX9_fill_268 rfl ?_
    obtain ⟨h2, h⟩ := h
    refine r_lneg dX9_fill_270 h2 ?_
    refine r_goto (tgt := 276) dX9_fill_271 (by decide) ?_
    refine Fr.fewer [0, 1, 3, 4, 5, 6] rfl ?_
    exact h
set_option maxHeartbeats 4000000 in
set_option maxRecDepth 20000 in
theorem bX9_fill_60 {d : Nat} {K : Shp} {H : Mem} {q : Mem → Prop} {v0 v1 v3 v4 v6 v9 v12 s0 : Int} (h : (((v3 : Int) = 0 → (inI (s0 + 1)) ∧ FX9_fill_77 d K H q (v0) (v1) (v3) (v4) (v6) (v9) (v12) (s0) ((s0 + 1))) ∧ (¬ (v3 : Int) = 0 → (inI (s0 - 1)) ∧ FX9_fill_77 d K H q (v0) (v1) (v3) (v4) (v6) (v9) (v12) (s0) ((s0 - 1))))) : FX9_fill_60 d K H q (v0) (v1) (v3) (v4) (v6) (v9) (v12) (s0) := by
  unfold FX9_fill_60
  refine r_istore dX9_fill_60 (by decide) rfl ?_
  refine r_iload_n 3 dX9_fill_62 rfl rfl ?_
  refine r_if_eq (tgt := 73) dX9_fill_63 (by decide) (fun c1 => ?_) (fun c1 => ?_)
  · replace h := h.1 c1
    refine r_iload 0 dX9_fill_73 rfl ?_
    refine r_iconst dX9_fill_75 (by decide) (by decide) ?_
    obtain ⟨h2, h⟩ := h
    refine r_iadd dX9_fill_76 h2 ?_
    refine Fr.fewer [1, 2, 3, 4, 5, 6, 7, 0] rfl ?_
    exact h
  · replace h := h.2 c1
    refine r_iload 0 dX9_fill_66 rfl ?_
    refine r_iconst dX9_fill_68 (by decide) (by decide) ?_
    obtain ⟨h3, h⟩ := h
    refine r_isub dX9_fill_69 h3 ?_
    refine r_goto (tgt := 77) dX9_fill_70 (by decide) ?_
    refine Fr.fewer [1, 2, 3, 4, 5, 6, 7, 0] rfl ?_
    exact h
set_option maxHeartbeats 4000000 in
set_option maxRecDepth 20000 in
theorem bX9_fill_276 {d : Nat} {K : Shp} {H : Mem} {q : Mem → Prop} {v0 v1 v4 v6 v8 v9 s0 : Int} (h : (inL (2 * v4)) ∧ ((0 : Int) ≤ v1) ∧ (K[(v1 : Int).toNat]? = some (4, 18)) ∧ (inI (v8 - (H (v1 : Int).toNat 1))) ∧ (inL ((2 * v4) * (v8 - (H (v1 : Int).toNat 1)))) ∧ (inL (v6 + ((2 * v4) * (v8 - (H (v1 : Int).toNat 1))))) ∧ ((0 : Int) ≤ v0) ∧ (K[(v0 : Int).toNat]? = some (9, 6)) ∧ (inL ((v6 + ((2 * v4) * (v8 - (H (v1 : Int).toNat 1)))) * v9)) ∧ (inL (s0 * v4)) ∧ (inL (((v6 + ((2 * v4) * (v8 - (H (v1 : Int).toNat 1)))) * v9) + (s0 * v4))) ∧ ((0 : Int) ≤ (H (v0 : Int).toNat 0)) ∧ (K[((H (v0 : Int).toNat 0) : Int).toNat]? = some (5, 2)) ∧ ∀ H14 : Mem, H14 = upA H ((H (v0 : Int).toNat 0) : Int).toNat (up1 (H ((H (v0 : Int).toNat 0) : Int).toNat) 0 (((v6 + ((2 * v4) * (v8 - (H (v1 : Int).toNat 1)))) * v9) + (s0 * v4))) → (inL (2 * v9)) ∧ ((0 : Int) ≤ (H14 (v0 : Int).toNat 0)) ∧ (K[((H14 (v0 : Int).toNat 0) : Int).toNat]? = some (5, 2)) ∧ ∀ H18 : Mem, H18 = upA H14 ((H14 (v0 : Int).toNat 0) : Int).toNat (up1 (H14 ((H14 (v0 : Int).toNat 0) : Int).toNat) 1 (2 * v9)) → (inL (v8 * v9)) ∧ (inL ((v8 * v9) + s0)) ∧ ((0 : Int) ≤ (H18 (v0 : Int).toNat 1)) ∧ (K[((H18 (v0 : Int).toNat 1) : Int).toNat]? = some (5, 2)) ∧ ∀ H23 : Mem, H23 = upA H18 ((H18 (v0 : Int).toNat 1) : Int).toNat (up1 (H18 ((H18 (v0 : Int).toNat 1) : Int).toNat) 0 ((v8 * v9) + s0)) → ((0 : Int) ≤ (H23 (v0 : Int).toNat 1)) ∧ (K[((H23 (v0 : Int).toNat 1) : Int).toNat]? = some (5, 2)) ∧ ∀ H26 : Mem, H26 = upA H23 ((H23 (v0 : Int).toNat 1) : Int).toNat (up1 (H23 ((H23 (v0 : Int).toNat 1) : Int).toNat) 1 v9) → q H26) : FX9_fill_276 d K H q (v0) (v1) (v4) (v6) (v8) (v9) (s0) := by
  unfold FX9_fill_276
  refine r_lstore dX9_fill_276 (by decide) rfl ?_
  refine r_lload 4 dX9_fill_278 rfl ?_
  refine r_ldc2 (x := 2) dX9_fill_280 kl_RX9_57 (by decide) (by decide) ?_
  refine r_lload 3 dX9_fill_283 rfl ?_
  obtain ⟨h1, h⟩ := h
  refine r_lmul dX9_fill_285 h1 ?_
  refine r_iload 5 dX9_fill_286 rfl ?_
  refine r_aload_n 2 dX9_fill_288 rfl rfl ?_
  obtain ⟨h2, h⟩ := h
  obtain ⟨h3, h⟩ := h
  refine r_getf cls4 1 dX9_fill_289 (by decide) fl_RX9_51 rfl h2 h3 ?_
  obtain ⟨h4, h⟩ := h
  refine r_isub dX9_fill_292 h4 ?_
  refine r_i2l dX9_fill_293 ?_
  obtain ⟨h5, h⟩ := h
  refine r_lmul dX9_fill_294 h5 ?_
  obtain ⟨h6, h⟩ := h
  refine r_ladd dX9_fill_295 h6 ?_
  refine r_lstore dX9_fill_296 (by decide) rfl ?_
  refine r_aload_n 2 dX9_fill_298 rfl rfl ?_
  obtain ⟨h7, h⟩ := h
  obtain ⟨h8, h⟩ := h
  refine r_getf cls9 0 dX9_fill_299 (by decide) fl_RX9_10 rfl h7 h8 ?_
  refine r_lload 0 dX9_fill_302 rfl ?_
  refine r_lload 6 dX9_fill_304 rfl ?_
  obtain ⟨h9, h⟩ := h
  refine r_lmul dX9_fill_306 h9 ?_
  refine r_lload 1 dX9_fill_307 rfl ?_
  refine r_lload 4 dX9_fill_309 rfl ?_
  obtain ⟨h10, h⟩ := h
  refine r_lmul dX9_fill_311 h10 ?_
  obtain ⟨h11, h⟩ := h
  refine r_ladd dX9_fill_312 h11 ?_
  obtain ⟨h12, h⟩ := h
  obtain ⟨h13, h⟩ := h
  refine r_putf cls5 0 dX9_fill_313 (by decide) rfl fl_RX9_69 rfl h12 h13 (fun o => o) ?_
  replace h := h _ rfl
  generalize upA H ((H (v0 : Int).toNat 0) : Int).toNat (up1 (H ((H (v0 : Int).toNat 0) : Int).toNat) 0 (((v6 + ((2 * v4) * (v8 - (H (v1 : Int).toNat 1)))) * v9) + (s0 * v4))) = H14 at h ⊢
  refine r_aload_n 2 dX9_fill_316 rfl rfl ?_
  refine r_getf cls9 0 dX9_fill_317 (by decide) fl_RX9_10 rfl h7 h8 ?_
  refine r_ldc2 (x := 2) dX9_fill_320 kl_RX9_57 (by decide) (by decide) ?_
  refine r_lload 6 dX9_fill_323 rfl ?_
  obtain ⟨h15, h⟩ := h
  refine r_lmul dX9_fill_325 h15 ?_
  obtain ⟨h16, h⟩ := h
  obtain ⟨h17, h⟩ := h
  refine r_putf cls5 1 dX9_fill_326 (by decide) rfl fl_RX9_66 rfl h16 h17 (fun o => o) ?_
  replace h := h _ rfl
  generalize upA H14 ((H14 (v0 : Int).toNat 0) : Int).toNat (up1 (H14 ((H14 (v0 : Int).toNat 0) : Int).toNat) 1 (2 * v9)) = H18 at h ⊢
  refine r_aload_n 2 dX9_fill_329 rfl rfl ?_
  refine r_getf cls9 1 dX9_fill_330 (by decide) fl_RX9_16 rfl h7 h8 ?_
  refine r_iload 5 dX9_fill_333 rfl ?_
  refine r_i2l dX9_fill_335 ?_
  refine r_lload 6 dX9_fill_336 rfl ?_
  obtain ⟨h19, h⟩ := h
  refine r_lmul dX9_fill_338 h19 ?_
  refine r_lload 1 dX9_fill_339 rfl ?_
  obtain ⟨h20, h⟩ := h
  refine r_ladd dX9_fill_341 h20 ?_
  obtain ⟨h21, h⟩ := h
  obtain ⟨h22, h⟩ := h
  refine r_putf cls5 0 dX9_fill_342 (by decide) rfl fl_RX9_69 rfl h21 h22 (fun o => o) ?_
  replace h := h _ rfl
  generalize upA H18 ((H18 (v0 : Int).toNat 1) : Int).toNat (up1 (H18 ((H18 (v0 : Int).toNat 1) : Int).toNat) 0 ((v8 * v9) + s0)) = H23 at h ⊢
  refine r_aload_n 2 dX9_fill_345 rfl rfl ?_
  refine r_getf cls9 1 dX9_fill_346 (by decide) fl_RX9_16 rfl h7 h8 ?_
  refine r_lload 6 dX9_fill_349 rfl ?_
  obtain ⟨h24, h⟩ := h
  obtain ⟨h25, h⟩ := h
  refine r_putf cls5 1 dX9_fill_351 (by decide) rfl fl_RX9_66 rfl h24 h25 (fun o => o) ?_
  replace h := h _ rfl
  generalize upA H23 ((H23 (v0 : Int).toNat 1) : Int).toNat (up1 (H23 ((H23 (v0 : Int).toNat 1) : Int).toNat) 1 v9) = H26 at h ⊢
  exact r_vret dX9_fill_354 rfl ⟨rfl, rfl, h⟩
set_option maxHeartbeats 4000000 in
set_option maxRecDepth 20000 in
theorem bX9_fill_77 {d : Nat} {K : Shp} {H : Mem} {q : Mem → Prop} {v0 v1 v3 v4 v6 v9 v12 v13 s0 : Int} (h : ((0 : Int) ≤ v1) ∧ (K[(v1 : Int).toNat]? = some (4, 18)) ∧ ((0 : Int) ≤ (H (v1 : Int).toNat 11)) ∧ ∃ n4 : Nat, (K[((H (v1 : Int).toNat 11) : Int).toNat]? = some (20, n4)) ∧ ((0 : Int) ≤ v13) ∧ ((v13 : Int) < n4) ∧ ((0 : Int) ≤ v0) ∧ (K[(v0 : Int).toNat]? = some (9, 6)) ∧ ((0 : Int) ≤ (H (v0 : Int).toNat 2)) ∧ ∃ n11 : Nat, (K[((H (v0 : Int).toNat 2) : Int).toNat]? = some (20, n11)) ∧ ((v13 : Int) < n11) ∧ (inL (2 * (min v4 (H ((H (v0 : Int).toNat 2) : Int).toNat (v13 : Int).toNat)))) ∧ (inI ((H ((H (v1 : Int).toNat 11) : Int).toNat (v13 : Int).toNat) - (H (v1 : Int).toNat 1))) ∧ (inL ((2 * (min v4 (H ((H (v0 : Int).toNat 2) : Int).toNat (v13 : Int).toNat))) * ((H ((H (v1 : Int).toNat 11) : Int).toNat (v13 : Int).toNat) - (H (v1 : Int).toNat 1)))) ∧ (inL (v6 + ((2 * (min v4 (H ((H (v0 : Int).toNat 2) : Int).toNat (v13 : Int).toNat))) * ((H ((H (v1 : Int).toNat 11) : Int).toNat (v13 : Int).toNat) - (H (v1 : Int).toNat 1))))) ∧ (inL (v4 - (min v4 (H ((H (v0 : Int).toNat 2) : Int).toNat (v13 : Int).toNat)))) ∧ ((((v4 - (min v4 (H ((H (v0 : Int).toNat 2) : Int).toNat (v13 : Int).toNat))) : Int) ≤ 0 → FX9_fill_156 d K H q (v0) (v1) (v3) ((v4 - (min v4 (H ((H (v0 : Int).toNat 2) : Int).toNat (v13 : Int).toNat)))) ((v6 + ((2 * (min v4 (H ((H (v0 : Int).toNat 2) : Int).toNat (v13 : Int).toNat))) * ((H ((H (v1 : Int).toNat 11) : Int).toNat (v13 : Int).toNat) - (H (v1 : Int).toNat 1))))) ((H ((H (v1 : Int).toNat 11) : Int).toNat (v13 : Int).toNat)) (v9) (v12) (v13) (s0) (1)) ∧ (¬ ((v4 - (min v4 (H ((H (v0 : Int).toNat 2) : Int).toNat (v13 : Int).toNat))) : Int) ≤ 0 → (((s0 : Int) < 0 → FX9_fill_156 d K H q (v0) (v1) (v3) ((v4 - (min v4 (H ((H (v0 : Int).toNat 2) : Int).toNat (v13 : Int).toNat)))) ((v6 + ((2 * (min v4 (H ((H (v0 : Int).toNat 2) : Int).toNat (v13 : Int).toNat))) * ((H ((H (v1 : Int).toNat 11) : Int).toNat (v13 : Int).toNat) - (H (v1 : Int).toNat 1))))) ((H ((H (v1 : Int).toNat 11) : Int).toNat (v13 : Int).toNat)) (v9) (v12) (v13) (s0) (1)) ∧ (¬ (s0 : Int) < 0 → (((s0 : Int) < (H (v1 : Int).toNat 10) → FX9_fill_156 d K H q (v0) (v1) (v3) ((v4 - (min v4 (H ((H (v0 : Int).toNat 2) : Int).toNat (v13 : Int).toNat)))) ((v6 + ((2 * (min v4 (H ((H (v0 : Int).toNat 2) : Int).toNat (v13 : Int).toNat))) * ((H ((H (v1 : Int).toNat 11) : Int).toNat (v13 : Int).toNat) - (H (v1 : Int).toNat 1))))) ((H ((H (v1 : Int).toNat 11) : Int).toNat (v13 : Int).toNat)) (v9) (v12) (v13) (s0) (0)) ∧ (¬ (s0 : Int) < (H (v1 : Int).toNat 10) → FX9_fill_156 d K H q (v0) (v1) (v3) ((v4 - (min v4 (H ((H (v0 : Int).toNat 2) : Int).toNat (v13 : Int).toNat)))) ((v6 + ((2 * (min v4 (H ((H (v0 : Int).toNat 2) : Int).toNat (v13 : Int).toNat))) * ((H ((H (v1 : Int).toNat 11) : Int).toNat (v13 : Int).toNat) - (H (v1 : Int).toNat 1))))) ((H ((H (v1 : Int).toNat 11) : Int).toNat (v13 : Int).toNat)) (v9) (v12) (v13) (s0) (1)))))))) : FX9_fill_77 d K H q (v0) (v1) (v3) (v4) (v6) (v9) (v12) (v13) (s0) := by
  unfold FX9_fill_77
  refine r_istore dX9_fill_77 (by decide) rfl ?_
  refine r_aload_n 2 dX9_fill_79 rfl rfl ?_
  obtain ⟨h1, h⟩ := h
  obtain ⟨h2, h⟩ := h
  refine r_getf cls4 11 dX9_fill_80 (by decide) fl_RX9_75 rfl h1 h2 ?_
  refine r_iload 8 dX9_fill_83 rfl ?_
  obtain ⟨h3, h⟩ := h
  obtain ⟨n4, h⟩ := h
  obtain ⟨h5, h⟩ := h
  obtain ⟨h6, h⟩ := h
  obtain ⟨h7, h⟩ := h
  refine r_iald n4 dX9_fill_85 h3 h5 h6 h7 ?_
  refine r_istore dX9_fill_86 (by decide) rfl ?_
  refine r_lload 5 dX9_fill_88 rfl ?_
  refine r_aload_n 2 dX9_fill_90 rfl rfl ?_
  obtain ⟨h8, h⟩ := h
  obtain ⟨h9, h⟩ := h
  refine r_getf cls9 2 dX9_fill_91 (by decide) fl_RX9_21 rfl h8 h9 ?_
  refine r_iload 9 dX9_fill_94 rfl ?_
  obtain ⟨h10, h⟩ := h
  obtain ⟨n11, h⟩ := h
  obtain ⟨h12, h⟩ := h
  obtain ⟨h13, h⟩ := h
  refine r_iald n11 dX9_fill_96 h10 h12 h6 h13 ?_
  refine r_i2l dX9_fill_97 ?_
  refine r_minl dX9_fill_98 ml_RX9_78 (Nat.le_of_ble_eq_true rfl) ?_
  refine r_lstore dX9_fill_101 (by decide) rfl ?_
  refine r_lload 7 dX9_fill_103 rfl ?_
  refine r_ldc2 (x := 2) dX9_fill_105 kl_RX9_57 (by decide) (by decide) ?_
  refine r_lload 0 dX9_fill_108 rfl ?_
  obtain ⟨h14, h⟩ := h
  refine r_lmul dX9_fill_110 h14 ?_
  refine r_iload 1 dX9_fill_111 rfl ?_
  refine r_aload_n 4 dX9_fill_113 rfl rfl ?_
  refine r_getf cls4 1 dX9_fill_114 (by decide) fl_RX9_51 rfl h1 h2 ?_
  obtain ⟨h15, h⟩ := h
  refine r_isub dX9_fill_117 h15 ?_
  refine r_i2l dX9_fill_118 ?_
  obtain ⟨h16, h⟩ := h
  refine r_lmul dX9_fill_119 h16 ?_
  obtain ⟨h17, h⟩ := h
  refine r_ladd dX9_fill_120 h17 ?_
  refine r_lstore dX9_fill_121 (by decide) rfl ?_
  refine r_lload 7 dX9_fill_123 rfl ?_
  refine r_lload 1 dX9_fill_125 rfl ?_
  obtain ⟨h18, h⟩ := h
  refine r_lsub dX9_fill_127 h18 ?_
  refine r_lstore dX9_fill_128 (by decide) rfl ?_
  refine r_lload 0 dX9_fill_130 rfl ?_
  refine r_lconst0 dX9_fill_132 ?_
  refine r_lcmp dX9_fill_133 ?_
  refine r_if_le (tgt := 151) dX9_fill_134 (by decide) (fun c19 => ?_) (fun c19 => ?_)
  · replace h := h.1 (cmpL_le.mp c19)
    refine r_iconst dX9_fill_151 (by decide) (by decide) ?_
    refine r_goto (tgt := 156) dX9_fill_152 (by decide) ?_
    refine Fr.fewer [5, 6, 7, 0, 1, 3, 8, 9, 10, 4] rfl ?_
    exact h
  · replace h := h.2 (fun q => c19 (cmpL_le.mpr q))
    refine r_iload 4 dX9_fill_137 rfl ?_
    refine r_if_lt (tgt := 151) dX9_fill_139 (by decide) (fun c20 => ?_) (fun c20 => ?_)
    · replace h := h.1 c20
      refine r_iconst dX9_fill_151 (by decide) (by decide) ?_
      refine r_goto (tgt := 156) dX9_fill_152 (by decide) ?_
      refine Fr.fewer [5, 6, 7, 0, 1, 3, 8, 9, 10, 4] rfl ?_
      exact h
    · replace h := h.2 c20
      refine r_iload 4 dX9_fill_142 rfl ?_
      refine r_aload_n 6 dX9_fill_144 rfl rfl ?_
      refine r_getf cls4 10 dX9_fill_145 (by decide) fl_RX9_72 rfl h1 h2 ?_
      refine r_icmp_lt (tgt := 155) dX9_fill_148 (by decide) (fun c21 => ?_) (fun c21 => ?_)
      · replace h := h.1 c21
        refine r_iconst dX9_fill_155 (by decide) (by decide) ?_
        refine Fr.fewer [5, 6, 7, 0, 1, 3, 8, 9, 10, 4] rfl ?_
        exact h
      · replace h := h.2 c21
        refine r_iconst dX9_fill_151 (by decide) (by decide) ?_
        refine r_goto (tgt := 156) dX9_fill_152 (by decide) ?_
        refine Fr.fewer [5, 6, 7, 0, 1, 3, 8, 9, 10, 4] rfl ?_
        exact h
set_option maxHeartbeats 4000000 in
set_option maxRecDepth 20000 in
theorem bX9_fill_156 {d : Nat} {K : Shp} {H : Mem} {q : Mem → Prop} {v0 v1 v3 v4 v6 v8 v9 v12 v13 v14 s0 : Int} (h : ((¬ (s0 : Int) = 0 → FX9_fill_258 d K H q (v0) (v1) (v3) (v4) (v6) (v8) (v9) (s0) (v12)) ∧ ((s0 : Int) = 0 → ((0 : Int) ≤ v1) ∧ (K[(v1 : Int).toNat]? = some (4, 18)) ∧ ((0 : Int) ≤ (H (v1 : Int).toNat 12)) ∧ ∃ n5 : Nat, (K[((H (v1 : Int).toNat 12) : Int).toNat]? = some (20, n5)) ∧ ((0 : Int) ≤ (min v13 v14)) ∧ (((min v13 v14) : Int) < n5) ∧ ((0 : Int) ≤ (H (v1 : Int).toNat 11)) ∧ ∃ n10 : Nat, (K[((H (v1 : Int).toNat 11) : Int).toNat]? = some (20, n10)) ∧ ((0 : Int) ≤ v14) ∧ ((v14 : Int) < n10) ∧ (inI ((H ((H (v1 : Int).toNat 11) : Int).toNat (v14 : Int).toNat) - v8)) ∧ (inI (max ((H ((H (v1 : Int).toNat 11) : Int).toNat (v14 : Int).toNat) - v8) (-((H ((H (v1 : Int).toNat 11) : Int).toNat (v14 : Int).toNat) - v8)))) ∧ (inL ((H ((H (v1 : Int).toNat 12) : Int).toNat ((min v13 v14) : Int).toNat) * (max ((H ((H (v1 : Int).toNat 11) : Int).toNat (v14 : Int).toNat) - v8) (-((H ((H (v1 : Int).toNat 11) : Int).toNat (v14 : Int).toNat) - v8))))) ∧ ((¬ (v4 : Int) ≤ ((H ((H (v1 : Int).toNat 12) : Int).toNat ((min v13 v14) : Int).toNat) * (max ((H ((H (v1 : Int).toNat 11) : Int).toNat (v14 : Int).toNat) - v8) (-((H ((H (v1 : Int).toNat 11) : Int).toNat (v14 : Int).toNat) - v8)))) → FX9_fill_210 d K H q (v0) (v1) (v3) (v4) (v6) (v8) (v9) (v12) (v14) ((H ((H (v1 : Int).toNat 12) : Int).toNat ((min v13 v14) : Int).toNat)) (((H ((H (v1 : Int).toNat 12) : Int).toNat ((min v13 v14) : Int).toNat) * (max ((H ((H (v1 : Int).toNat 11) : Int).toNat (v14 : Int).toNat) - v8) (-((H ((H (v1 : Int).toNat 11) : Int).toNat (v14 : Int).toNat) - v8))))) (0)) ∧ ((v4 : Int) ≤ ((H ((H (v1 : Int).toNat 12) : Int).toNat ((min v13 v14) : Int).toNat) * (max ((H ((H (v1 : Int).toNat 11) : Int).toNat (v14 : Int).toNat) - v8) (-((H ((H (v1 : Int).toNat 11) : Int).toNat (v14 : Int).toNat) - v8)))) → FX9_fill_210 d K H q (v0) (v1) (v3) (v4) (v6) (v8) (v9) (v12) (v14) ((H ((H (v1 : Int).toNat 12) : Int).toNat ((min v13 v14) : Int).toNat)) (((H ((H (v1 : Int).toNat 12) : Int).toNat ((min v13 v14) : Int).toNat) * (max ((H ((H (v1 : Int).toNat 11) : Int).toNat (v14 : Int).toNat) - v8) (-((H ((H (v1 : Int).toNat 11) : Int).toNat (v14 : Int).toNat) - v8))))) (1)))))) : FX9_fill_156 d K H q (v0) (v1) (v3) (v4) (v6) (v8) (v9) (v12) (v13) (v14) (s0) := by
  unfold FX9_fill_156
  refine r_istore dX9_fill_156 (by decide) rfl ?_
  refine r_iload 0 dX9_fill_158 rfl ?_
  refine r_if_ne (tgt := 258) dX9_fill_160 (by decide) (fun c1 => ?_) (fun c1 => ?_)
  · replace h := h.1 c1
    refine Fr.fewer [1, 2, 3, 4, 5, 6, 7, 0, 8] rfl ?_
    exact h
  · replace h := h.2 c1
    refine r_aload_n 2 dX9_fill_163 rfl rfl ?_
    obtain ⟨h2, h⟩ := h
    obtain ⟨h3, h⟩ := h
    refine r_getf cls4 12 dX9_fill_164 (by decide) fl_RX9_84 rfl h2 h3 ?_
    refine r_iload 9 dX9_fill_167 rfl ?_
    refine r_iload 10 dX9_fill_169 rfl ?_
    refine r_mini dX9_fill_171 ml_RX9_87 (Nat.le_of_ble_eq_true rfl) ?_
    obtain ⟨h4, h⟩ := h
    obtain ⟨n5, h⟩ := h
    obtain ⟨h6, h⟩ := h
    obtain ⟨h7, h⟩ := h
    obtain ⟨h8, h⟩ := h
    refine r_iald n5 dX9_fill_174 h4 h6 h7 h8 ?_
    refine r_istore dX9_fill_175 (by decide) rfl ?_
    refine r_iload 0 dX9_fill_177 rfl ?_
    refine r_i2l dX9_fill_179 ?_
    refine r_aload_n 3 dX9_fill_180 rfl rfl ?_
    refine r_getf cls4 11 dX9_fill_181 (by decide) fl_RX9_75 rfl h2 h3 ?_
    refine r_iload 11 dX9_fill_184 rfl ?_
    obtain ⟨h9, h⟩ := h
    obtain ⟨n10, h⟩ := h
    obtain ⟨h11, h⟩ := h
    obtain ⟨h12, h⟩ := h
    obtain ⟨h13, h⟩ := h
    refine r_iald n10 dX9_fill_186 h9 h11 h12 h13 ?_
    refine r_iload 7 dX9_fill_187 rfl ?_
    obtain ⟨h14, h⟩ := h
    refine r_isub dX9_fill_189 h14 ?_
    obtain ⟨h15, h⟩ := h
    refine r_absi dX9_fill_190 ml_RX9_90 (Nat.le_of_ble_eq_true rfl) h15 ?_
    refine r_i2l dX9_fill_193 ?_
    obtain ⟨h16, h⟩ := h
    refine r_lmul dX9_fill_194 h16 ?_
    refine r_lstore dX9_fill_195 (by decide) rfl ?_
    refine r_lload 6 dX9_fill_197 rfl ?_
    refine r_lload 0 dX9_fill_199 rfl ?_
    refine r_lcmp dX9_fill_201 ?_
    refine r_if_gt (tgt := 209) dX9_fill_202 (by decide) (fun c17 => ?_) (fun c17 => ?_)
    · replace h := h.1 (fun q => c17 (cmpL_le.mpr q))
      refine r_iconst dX9_fill_209 (by decide) (by decide) ?_
      refine Fr.fewer [3, 4, 5, 6, 7, 8, 9, 10, 12, 1, 0] rfl ?_
      exact h
    · replace h := h.2 (cmpL_le.mp c17)
      refine r_iconst dX9_fill_205 (by decide) (by decide) ?_
      refine r_goto (tgt := 210) dX9_fill_206 (by decide) ?_
      refine Fr.fewer [3, 4, 5, 6, 7, 8, 9, 10, 12, 1, 0] rfl ?_
      exact h
set_option maxHeartbeats 4000000 in
set_option maxRecDepth 20000 in
theorem bX9_fill_258 {d : Nat} {K : Shp} {H : Mem} {q : Mem → Prop} {v0 v1 v3 v4 v6 v8 v9 v11 v12 : Int} (h : (inI (v12 + 1)) ∧ FX9_fill_28 d K H q (v0) (v1) (v3) (v4) (v6) (v8) (v9) (v11) ((v12 + 1))) : FX9_fill_258 d K H q (v0) (v1) (v3) (v4) (v6) (v8) (v9) (v11) (v12) := by
  unfold FX9_fill_258
  obtain ⟨h1, h⟩ := h
  refine r_iinc 8 dX9_fill_258 (by decide) rfl h1 rfl ?_
  refine r_goto (tgt := 28) dX9_fill_261 (by decide) ?_
  refine Fr.fewer [1, 2, 3, 4, 5, 6, 7, 8, 0] rfl ?_
  exact h
set_option maxHeartbeats 4000000 in
set_option maxRecDepth 20000 in
theorem bX9_fill_210 {d : Nat} {K : Shp} {H : Mem} {q : Mem → Prop} {v0 v1 v3 v4 v6 v8 v9 v12 v14 v17 v18 s0 : Int} (h : (((s0 : Int) = 0 → ((0 : Int) ≤ v1) ∧ (K[(v1 : Int).toNat]? = some (4, 18)) ∧ ((0 : Int) ≤ (H (v1 : Int).toNat 11)) ∧ ∃ n5 : Nat, (K[((H (v1 : Int).toNat 11) : Int).toNat]? = some (20, n5)) ∧ ((0 : Int) ≤ v14) ∧ ((v14 : Int) < n5) ∧ (inI (v8 + (H ((H (v1 : Int).toNat 11) : Int).toNat (v14 : Int).toNat))) ∧ (inI (2 * (H (v1 : Int).toNat 1))) ∧ (inI ((v8 + (H ((H (v1 : Int).toNat 11) : Int).toNat (v14 : Int).toNat)) - (2 * (H (v1 : Int).toNat 1)))) ∧ (inL (v18 * ((v8 + (H ((H (v1 : Int).toNat 11) : Int).toNat (v14 : Int).toNat)) - (2 * (H (v1 : Int).toNat 1))))) ∧ (inL (v6 + (v18 * ((v8 + (H ((H (v1 : Int).toNat 11) : Int).toNat (v14 : Int).toNat)) - (2 * (H (v1 : Int).toNat 1)))))) ∧ (inL (v4 - v18)) ∧ FX9_fill_258 d K H q (v0) (v1) (v3) ((v4 - v18)) ((v6 + (v18 * ((v8 + (H ((H (v1 : Int).toNat 11) : Int).toNat (v14 : Int).toNat)) - (2 * (H (v1 : Int).toNat 1)))))) (v8) (v9) (s0) (v12)) ∧ (¬ (s0 : Int) = 0 → FX9_fill_258 d K H q (v0) (v1) (v3) (v4) (v6) (v8) (v17) (s0) (v12)))) : FX9_fill_210 d K H q (v0) (v1) (v3) (v4) (v6) (v8) (v9) (v12) (v14) (v17) (v18) (s0) := by
  unfold FX9_fill_210
  refine r_istore dX9_fill_210 (by decide) rfl ?_
  refine r_iload 0 dX9_fill_212 rfl ?_
  refine r_if_eq (tgt := 225) dX9_fill_214 (by decide) (fun c1 => ?_) (fun c1 => ?_)
  · replace h := h.1 c1
    refine r_lload 5 dX9_fill_225 rfl ?_
    refine r_lload 11 dX9_fill_227 rfl ?_
    refine r_iload 6 dX9_fill_229 rfl ?_
    refine r_aload_n 2 dX9_fill_231 rfl rfl ?_
    obtain ⟨h2, h⟩ := h
    obtain ⟨h3, h⟩ := h
    refine r_getf cls4 11 dX9_fill_232 (by decide) fl_RX9_75 rfl h2 h3 ?_
    refine r_iload 9 dX9_fill_235 rfl ?_
    obtain ⟨h4, h⟩ := h
    obtain ⟨n5, h⟩ := h
    obtain ⟨h6, h⟩ := h
    obtain ⟨h7, h⟩ := h
    obtain ⟨h8, h⟩ := h
    refine r_iald n5 dX9_fill_237 h4 h6 h7 h8 ?_
    obtain ⟨h9, h⟩ := h
    refine r_iadd dX9_fill_238 h9 ?_
    refine r_iconst dX9_fill_239 (by decide) (by decide) ?_
    refine r_aload_n 2 dX9_fill_240 rfl rfl ?_
    refine r_getf cls4 1 dX9_fill_241 (by decide) fl_RX9_51 rfl h2 h3 ?_
    obtain ⟨h10, h⟩ := h
    refine r_imul dX9_fill_244 h10 ?_
    obtain ⟨h11, h⟩ := h
    refine r_isub dX9_fill_245 h11 ?_
    refine r_i2l dX9_fill_246 ?_
    obtain ⟨h12, h⟩ := h
    refine r_lmul dX9_fill_247 h12 ?_
    obtain ⟨h13, h⟩ := h
    refine r_ladd dX9_fill_248 h13 ?_
    refine r_lstore dX9_fill_249 (by decide) rfl ?_
    refine r_lload 5 dX9_fill_251 rfl ?_
    refine r_lload 11 dX9_fill_253 rfl ?_
    obtain ⟨h14, h⟩ := h
    refine r_lsub dX9_fill_255 h14 ?_
    refine r_lstore dX9_fill_256 (by decide) rfl ?_
    refine Fr.fewer [3, 4, 5, 0, 1, 6, 7, 2, 8] rfl ?_
    exact h
  · replace h := h.2 c1
    refine r_iload 10 dX9_fill_217 rfl ?_
    refine r_i2l dX9_fill_219 ?_
    refine r_lstore dX9_fill_220 (by decide) rfl ?_
    refine r_goto (tgt := 258) dX9_fill_222 (by decide) ?_
    refine Fr.fewer [2, 3, 4, 5, 6, 7, 0, 1, 8] rfl ?_
    exact h
set_option maxHeartbeats 4000000 in
set_option maxRecDepth 20000 in
theorem eX9_fill {d : Nat} {K : Shp} {H : Mem} {q : Mem → Prop} {v0 v1 v2 v3 : Int} (h : inI v2 → inI v3 → Rng K H → FX9_fill_0 d K H q v0 v1 v2 v3) : Cv mX9_fill (d + 1) [(2, v0), (2, v1), (0, v2), (0, v3)] K H q := Call.of rfl (Nat.le_of_ble_eq_true rfl) (fun o r => h (o (0, v2) (by simp)) (o (0, v3) (by simp)) r)
