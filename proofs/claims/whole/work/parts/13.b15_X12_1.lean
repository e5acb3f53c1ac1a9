/-! printed by gen/emit.py: what a walk from each cut point asks -/
def FX12_divideShort_0 (d : Nat) (K : Shp) (H : Mem) (q : Mem → Prop) (v0 : Int) (v1 : Int) : Prop := Fr mX12_divideShort d 0 0 none 0 [(0, (2, v0)), (1, (0, v1))] [] K H (qv K q)
def FX12_divideShort_10 (d : Nat) (K : Shp) (H : Mem) (q : Mem → Prop) (v0 : Int) (v1 : Int) (v2 : Int) (v4 : Int) : Prop := Fr mX12_divideShort d 0 0 none 10 [(0, (2, v0)), (1, (0, v1)), (2, (1, v2)), (4, (0, v4))] [] K H (qv K q)
def FX12_divideShort_63 (d : Nat) (K : Shp) (H : Mem) (q : Mem → Prop) (v0 : Int) (v2 : Int) : Prop := Fr mX12_divideShort d 0 0 none 63 [(0, (2, v0)), (2, (1, v2))] [] K H (qv K q)
set_option maxHeartbeats 4000000 in
set_option maxRecDepth 20000 in
theorem bX12_divideShort_0 {d : Nat} {K : Shp} {H : Mem} {q : Mem → Prop} {v0 v1 : Int} (h : ((0 : Int) ≤ v0) ∧ (K[(v0 : Int).toNat]? = some (12, 51)) ∧ (inI ((H (v0 : Int).toNat 6) - 1)) ∧ FX12_divideShort_10 d K H q (v0) (v1) (0) (((H (v0 : Int).toNat 6) - 1))) : FX12_divideShort_0 d K H q (v0) (v1) := by
  unfold FX12_divideShort_0
  refine r_lconst0 dX12_divideShort_0 ?_
  refine r_lstore_n dX12_divideShort_1 rfl (by decide) rfl ?_
  refine r_aload_n 1 dX12_divideShort_2 rfl rfl ?_
  obtain ⟨h1, h⟩ := h
  obtain ⟨h2, h⟩ := h
  refine r_getf cls12 6 dX12_divideShort_3 (by decide) fl_RX12_135 rfl h1 h2 ?_
  refine r_iconst dX12_divideShort_6 (by decide) (by decide) ?_
  obtain ⟨h3, h⟩ := h
  refine r_isub dX12_divideShort_7 h3 ?_
  refine r_istore dX12_divideShort_8 (by decide) rfl ?_
  refine Fr.fewer [2, 3, 1, 0] rfl ?_
  exact h
set_option maxHeartbeats 4000000 in
set_option maxRecDepth 20000 in
theorem bX12_divideShort_10 {d : Nat} {K : Shp} {H : Mem} {q : Mem → Prop} {v0 v1 v2 v4 : Int} (h : (((v4 : Int) < 0 → ((0 : Int) ≤ v0) ∧ (K[(v0 : Int).toNat]? = some (12, 51)) ∧ ∀ H4 : Mem, H4 = upA H (v0 : Int).toNat (up1 (H (v0 : Int).toNat) 7 (H (v0 : Int).toNat 6)) → FX12_divideShort_63 d K H4 q (v0) (v2)) ∧ (¬ (v4 : Int) < 0 → (inL (v2 * 1073741824)) ∧ ((0 : Int) ≤ v0) ∧ (K[(v0 : Int).toNat]? = some (12, 51)) ∧ ((0 : Int) ≤ (H (v0 : Int).toNat 3)) ∧ ∃ n9 : Nat, (K[((H (v0 : Int).toNat 3) : Int).toNat]? = some (20, n9)) ∧ ((0 : Int) ≤ v4) ∧ ((v4 : Int) < n9) ∧ (∃ n : Nat, (0 : Int) ≤ (v2 * 1073741824) ∧ ((v2 * 1073741824) : Int) % (2 ^ n : Nat) = 0 ∧ (0 : Int) ≤ (H ((H (v0 : Int).toNat 3) : Int).toNat (v4 : Int).toNat) ∧ ((H ((H (v0 : Int).toNat 3) : Int).toNat (v4 : Int).toNat) : Int) < (2 ^ n : Nat) ∧ inL ((v2 * 1073741824) + (H ((H (v0 : Int).toNat 3) : Int).toNat (v4 : Int).toNat))) ∧ ((v1 : Int) ≠ 0) ∧ (inL (Int.tdiv ((v2 * 1073741824) + (H ((H (v0 : Int).toNat 3) : Int).toNat (v4 : Int).toNat)) v1)) ∧ (inI (Int.tdiv ((v2 * 1073741824) + (H ((H (v0 : Int).toNat 3) : Int).toNat (v4 : Int).toNat)) v1)) ∧ ((0 : Int) ≤ (H (v0 : Int).toNat 5)) ∧ ∃ n18 : Nat, (K[((H (v0 : Int).toNat 5) : Int).toNat]? = some (20, n18)) ∧ ((v4 : Int) < n18) ∧ ∀ H21 : Mem, H21 = upA H ((H (v0 : Int).toNat 5) : Int).toNat (up1 (H ((H (v0 : Int).toNat 5) : Int).toNat) (v4 : Int).toNat (Int.tdiv ((v2 * 1073741824) + (H ((H (v0 : Int).toNat 3) : Int).toNat (v4 : Int).toNat)) v1)) → (inL (Int.tmod ((v2 * 1073741824) + (H ((H (v0 : Int).toNat 3) : Int).toNat (v4 : Int).toNat)) v1)) ∧ (inI (v4 + (-1))) ∧ FX12_divideShort_10 d K H21 q (v0) (v1) ((Int.tmod ((v2 * 1073741824) + (H ((H (v0 : Int).toNat 3) : Int).toNat (v4 : Int).toNat)) v1)) ((v4 + (-1)))))) : FX12_divideShort_10 d K H q (v0) (v1) (v2) (v4) := by
  unfold FX12_divideShort_10
  refine r_iload 3 dX12_divideShort_10 rfl ?_
  refine r_if_lt (tgt := 55) dX12_divideShort_12 (by decide) (fun c1 => ?_) (fun c1 => ?_)
  · replace h := h.1 c1
    refine r_aload_n 0 dX12_divideShort_55 rfl rfl ?_
    refine r_aload_n 0 dX12_divideShort_56 rfl rfl ?_
    obtain ⟨h2, h⟩ := h
    obtain ⟨h3, h⟩ := h
    refine r_getf cls12 6 dX12_divideShort_57 (by decide) fl_RX12_135 rfl h2 h3 ?_
    refine r_putf cls12 7 dX12_divideShort_60 (by decide) rfl fl_RX12_138 rfl h2 h3 (fun o => o) ?_
    replace h := h _ rfl
    generalize upA H (v0 : Int).toNat (up1 (H (v0 : Int).toNat) 7 (H (v0 : Int).toNat 6)) = H4 at h ⊢
    refine Fr.fewer [0, 2] rfl ?_
    exact h
  · replace h := h.2 c1
    refine r_lload_n 2 dX12_divideShort_15 rfl rfl ?_
    refine r_bipush dX12_divideShort_16 (by decide) (by decide) ?_
    obtain ⟨h5, h⟩ := h
    refine r_lshl30 dX12_divideShort_18 h5 ?_
    refine r_aload_n 0 dX12_divideShort_19 rfl rfl ?_
    obtain ⟨h6, h⟩ := h
    obtain ⟨h7, h⟩ := h
    refine r_getf cls12 3 dX12_divideShort_20 (by decide) fl_RX12_13 rfl h6 h7 ?_
    refine r_iload 3 dX12_divideShort_23 rfl ?_
    obtain ⟨h8, h⟩ := h
    obtain ⟨n9, h⟩ := h
    obtain ⟨h10, h⟩ := h
    obtain ⟨h11, h⟩ := h
    obtain ⟨h12, h⟩ := h
    refine r_iald n9 dX12_divideShort_25 h8 h10 h11 h12 ?_
    refine r_i2l dX12_divideShort_26 ?_
    obtain ⟨h13, h⟩ := h
    obtain ⟨nh13, h13a, h13b, h13c, h13d, h13e⟩ := h13
    refine r_lor nh13 dX12_divideShort_27 h13a h13b h13c h13d h13e ?_
    refine r_lstore dX12_divideShort_28 (by decide) rfl ?_
    refine r_aload_n 1 dX12_divideShort_30 rfl rfl ?_
    refine r_getf cls12 5 dX12_divideShort_31 (by decide) fl_RX12_19 rfl h6 h7 ?_
    refine r_iload 4 dX12_divideShort_34 rfl ?_
    refine r_lload 0 dX12_divideShort_36 rfl ?_
    refine r_iload_n 2 dX12_divideShort_38 rfl rfl ?_
    refine r_i2l dX12_divideShort_39 ?_
    obtain ⟨h14, h⟩ := h
    obtain ⟨h15, h⟩ := h
    refine r_ldiv dX12_divideShort_40 h14 h15 ?_
    obtain ⟨h16, h⟩ := h
    refine r_l2i dX12_divideShort_41 h16 ?_
    obtain ⟨h17, h⟩ := h
    obtain ⟨n18, h⟩ := h
    obtain ⟨h19, h⟩ := h
    obtain ⟨h20, h⟩ := h
    refine r_iast n18 dX12_divideShort_42 h17 h19 h11 h20 ?_
    replace h := h _ rfl
    generalize upA H ((H (v0 : Int).toNat 5) : Int).toNat (up1 (H ((H (v0 : Int).toNat 5) : Int).toNat) (v4 : Int).toNat (Int.tdiv ((v2 * 1073741824) + (H ((H (v0 : Int).toNat 3) : Int).toNat (v4 : Int).toNat)) v1)) = H21 at h ⊢
    refine r_lload 0 dX12_divideShort_43 rfl ?_
    refine r_iload_n 2 dX12_divideShort_45 rfl rfl ?_
    refine r_i2l dX12_divideShort_46 ?_
    obtain ⟨h22, h⟩ := h
    refine r_lrem dX12_divideShort_47 h14 h22 ?_
    refine r_lstore_n dX12_divideShort_48 rfl (by decide) rfl ?_
    obtain ⟨h23, h⟩ := h
    refine r_iinc 4 dX12_divideShort_49 (by decide) rfl h23 rfl ?_
    refine r_goto (tgt := 10) dX12_divideShort_52 (by decide) ?_
    refine Fr.fewer [3, 4, 1, 0] rfl ?_
    exact h
set_option maxHeartbeats 4000000 in
set_option maxRecDepth 20000 in
theorem bX12_divideShort_63 {d : Nat} {K : Shp} {H : Mem} {q : Mem → Prop} {v0 v2 : Int} (h : ((0 : Int) ≤ v0) ∧ (K[(v0 : Int).toNat]? = some (12, 51)) ∧ ((((H (v0 : Int).toNat 7) : Int) ≤ 0 → (inI v2) ∧ ((0 : Int) ≤ (H (v0 : Int).toNat 3)) ∧ ∃ n6 : Nat, (K[((H (v0 : Int).toNat 3) : Int).toNat]? = some (20, n6)) ∧ ((0 : Int) < n6) ∧ ∀ H9 : Mem, H9 = upA H ((H (v0 : Int).toNat 3) : Int).toNat (up1 (H ((H (v0 : Int).toNat 3) : Int).toNat) (0 : Int).toNat v2) → ((¬ (v2 : Int) = 0 → ∀ H11 : Mem, H11 = upA H9 (v0 : Int).toNat (up1 (H9 (v0 : Int).toNat) 6 1) → q H11) ∧ ((v2 : Int) = 0 → ∀ H12 : Mem, H12 = upA H9 (v0 : Int).toNat (up1 (H9 (v0 : Int).toNat) 6 0) → q H12))) ∧ (¬ ((H (v0 : Int).toNat 7) : Int) ≤ 0 → (inI ((H (v0 : Int).toNat 7) - 1)) ∧ ((0 : Int) ≤ (H (v0 : Int).toNat 5)) ∧ ∃ n15 : Nat, (K[((H (v0 : Int).toNat 5) : Int).toNat]? = some (20, n15)) ∧ ((0 : Int) ≤ ((H (v0 : Int).toNat 7) - 1)) ∧ ((((H (v0 : Int).toNat 7) - 1) : Int) < n15) ∧ ((¬ ((H ((H (v0 : Int).toNat 5) : Int).toNat (((H (v0 : Int).toNat 7) - 1) : Int).toNat) : Int) = 0 → (inI v2) ∧ ((0 : Int) ≤ (H (v0 : Int).toNat 3)) ∧ ∃ n22 : Nat, (K[((H (v0 : Int).toNat 3) : Int).toNat]? = some (20, n22)) ∧ ((0 : Int) < n22) ∧ ∀ H25 : Mem, H25 = upA H ((H (v0 : Int).toNat 3) : Int).toNat (up1 (H ((H (v0 : Int).toNat 3) : Int).toNat) (0 : Int).toNat v2) → ((¬ (v2 : Int) = 0 → ∀ H27 : Mem, H27 = upA H25 (v0 : Int).toNat (up1 (H25 (v0 : Int).toNat) 6 1) → q H27) ∧ ((v2 : Int) = 0 → ∀ H28 : Mem, H28 = upA H25 (v0 : Int).toNat (up1 (H25 (v0 : Int).toNat) 6 0) → q H28))) ∧ (((H ((H (v0 : Int).toNat 5) : Int).toNat (((H (v0 : Int).toNat 7) - 1) : Int).toNat) : Int) = 0 → ∀ H29 : Mem, H29 = upA H (v0 : Int).toNat (up1 (H (v0 : Int).toNat) 7 ((H (v0 : Int).toNat 7) - 1)) → FX12_divideShort_63 d K H29 q (v0) (v2)))))) : FX12_divideShort_63 d K H q (v0) (v2) := by
  unfold FX12_divideShort_63
  refine r_aload_n 0 dX12_divideShort_63 rfl rfl ?_
  obtain ⟨h1, h⟩ := h
  obtain ⟨h2, h⟩ := h
  refine r_getf cls12 7 dX12_divideShort_64 (by decide) fl_RX12_138 rfl h1 h2 ?_
  refine r_if_le (tgt := 97) dX12_divideShort_67 (by decide) (fun c3 => ?_) (fun c3 => ?_)
  · replace h := h.1 c3
    refine r_aload_n 0 dX12_divideShort_97 rfl rfl ?_
    refine r_getf cls12 3 dX12_divideShort_98 (by decide) fl_RX12_13 rfl h1 h2 ?_
    refine r_iconst dX12_divideShort_101 (by decide) (by decide) ?_
    refine r_lload_n 1 dX12_divideShort_102 rfl rfl ?_
    obtain ⟨h4, h⟩ := h
    refine r_l2i dX12_divideShort_103 h4 ?_
    obtain ⟨h5, h⟩ := h
    obtain ⟨n6, h⟩ := h
    obtain ⟨h7, h⟩ := h
    obtain ⟨h8, h⟩ := h
    refine r_iast n6 dX12_divideShort_104 h5 h7 (by decide) h8 ?_
    replace h := h _ rfl
    generalize upA H ((H (v0 : Int).toNat 3) : Int).toNat (up1 (H ((H (v0 : Int).toNat 3) : Int).toNat) (0 : Int).toNat v2) = H9 at h ⊢
    refine r_aload_n 0 dX12_divideShort_105 rfl rfl ?_
    refine r_lload_n 1 dX12_divideShort_106 rfl rfl ?_
    refine r_lconst0 dX12_divideShort_107 ?_
    refine r_lcmp dX12_divideShort_108 ?_
    refine r_if_ne (tgt := 116) dX12_divideShort_109 (by decide) (fun c10 => ?_) (fun c10 => ?_)
    · replace h := h.1 (fun q => c10 (cmpL_eq.mpr q))
      refine r_iconst dX12_divideShort_116 (by decide) (by decide) ?_
      refine r_putf cls12 6 dX12_divideShort_117 (by decide) rfl fl_RX12_135 rfl h1 h2 (fun o => o) ?_
      replace h := h _ rfl
      generalize upA H9 (v0 : Int).toNat (up1 (H9 (v0 : Int).toNat) 6 1) = H11 at h ⊢
      exact r_vret dX12_divideShort_120 rfl ⟨rfl, rfl, h⟩
    · replace h := h.2 (cmpL_eq.mp c10)
      refine r_iconst dX12_divideShort_112 (by decide) (by decide) ?_
      refine r_goto (tgt := 117) dX12_divideShort_113 (by decide) ?_
      refine r_putf cls12 6 dX12_divideShort_117 (by decide) rfl fl_RX12_135 rfl h1 h2 (fun o => o) ?_
      replace h := h _ rfl
      generalize upA H9 (v0 : Int).toNat (up1 (H9 (v0 : Int).toNat) 6 0) = H12 at h ⊢
      exact r_vret dX12_divideShort_120 rfl ⟨rfl, rfl, h⟩
  · replace h := h.2 c3
    refine r_aload_n 0 dX12_divideShort_70 rfl rfl ?_
    refine r_getf cls12 5 dX12_divideShort_71 (by decide) fl_RX12_19 rfl h1 h2 ?_
    refine r_aload_n 0 dX12_divideShort_74 rfl rfl ?_
    refine r_getf cls12 7 dX12_divideShort_75 (by decide) fl_RX12_138 rfl h1 h2 ?_
    refine r_iconst dX12_divideShort_78 (by decide) (by decide) ?_
    obtain ⟨h13, h⟩ := h
    refine r_isub dX12_divideShort_79 h13 ?_
    obtain ⟨h14, h⟩ := h
    obtain ⟨n15, h⟩ := h
    obtain ⟨h16, h⟩ := h
    obtain ⟨h17, h⟩ := h
    obtain ⟨h18, h⟩ := h
    refine r_iald n15 dX12_divideShort_80 h14 h16 h17 h18 ?_
    refine r_if_ne (tgt := 97) dX12_divideShort_81 (by decide) (fun c19 => ?_) (fun c19 => ?_)
    · replace h := h.1 c19
      refine r_aload_n 0 dX12_divideShort_97 rfl rfl ?_
      refine r_getf cls12 3 dX12_divideShort_98 (by decide) fl_RX12_13 rfl h1 h2 ?_
      refine r_iconst dX12_divideShort_101 (by decide) (by decide) ?_
      refine r_lload_n 1 dX12_divideShort_102 rfl rfl ?_
      obtain ⟨h20, h⟩ := h
      refine r_l2i dX12_divideShort_103 h20 ?_
      obtain ⟨h21, h⟩ := h
      obtain ⟨n22, h⟩ := h
      obtain ⟨h23, h⟩ := h
      obtain ⟨h24, h⟩ := h
      refine r_iast n22 dX12_divideShort_104 h21 h23 (by decide) h24 ?_
      replace h := h _ rfl
      generalize upA H ((H (v0 : Int).toNat 3) : Int).toNat (up1 (H ((H (v0 : Int).toNat 3) : Int).toNat) (0 : Int).toNat v2) = H25 at h ⊢
      refine r_aload_n 0 dX12_divideShort_105 rfl rfl ?_
      refine r_lload_n 1 dX12_divideShort_106 rfl rfl ?_
      refine r_lconst0 dX12_divideShort_107 ?_
      refine r_lcmp dX12_divideShort_108 ?_
      refine r_if_ne (tgt := 116) dX12_divideShort_109 (by decide) (fun c26 => ?_) (fun c26 => ?_)
      · replace h := h.1 (fun q => c26 (cmpL_eq.mpr q))
        refine r_iconst dX12_divideShort_116 (by decide) (by decide) ?_
        refine r_putf cls12 6 dX12_divideShort_117 (by decide) rfl fl_RX12_135 rfl h1 h2 (fun o => o) ?_
        replace h := h _ rfl
        generalize upA H25 (v0 : Int).toNat (up1 (H25 (v0 : Int).toNat) 6 1) = H27 at h ⊢
        exact r_vret dX12_divideShort_120 rfl ⟨rfl, rfl, h⟩
      · replace h := h.2 (cmpL_eq.mp c26)
        refine r_iconst dX12_divideShort_112 (by decide) (by decide) ?_
        refine r_goto (tgt := 117) dX12_divideShort_113 (by decide) ?_
        refine r_putf cls12 6 dX12_divideShort_117 (by decide) rfl fl_RX12_135 rfl h1 h2 (fun o => o) ?_
        replace h := h _ rfl
        generalize upA H25 (v0 : Int).toNat (up1 (H25 (v0 : Int).toNat) 6 0) = H28 at h ⊢
        exact r_vret dX12_divideShort_120 rfl ⟨rfl, rfl, h⟩
    · replace h := h.2 c19
      refine r_aload_n 0 dX12_divideShort_84 rfl rfl ?_
      refine r_dup dX12_divideShort_85 (show (2 : Nat) ≠ 1 by decide) ?_
      refine r_getf cls12 7 dX12_divideShort_86 (by decide) fl_RX12_138 rfl h1 h2 ?_
      refine r_iconst dX12_divideShort_89 (by decide) (by decide) ?_
      refine r_isub dX12_divideShort_90 h13 ?_
      refine r_putf cls12 7 dX12_divideShort_91 (by decide) rfl fl_RX12_138 rfl h1 h2 (fun o => o) ?_
      replace h := h _ rfl
      generalize upA H (v0 : Int).toNat (up1 (H (v0 : Int).toNat) 7 ((H (v0 : Int).toNat 7) - 1)) = H29 at h ⊢
      refine r_goto (tgt := 63) dX12_divideShort_94 (by decide) ?_
      refine Fr.fewer [0, 1] rfl ?_
      exact h
set_option maxHeartbeats 4000000 in
set_option maxRecDepth 20000 in
theorem eX12_divideShort {d : Nat} {K : Shp} {H : Mem} {q : Mem → Prop} {v0 v1 : Int} (h : inI v1 → Rng K H → FX12_divideShort_0 d K H q v0 v1) : Cv mX12_divideShort d [(2, v0), (0, v1)] K H q := Call.of rfl (Nat.le_of_ble_eq_true rfl) (fun o r => h (o (0, v1) (by simp)) r)
def FX12_step_0 (d : Nat) (K : Shp) (H : Mem) (q : Int → Mem → Prop) (v0 : Int) (v1 : Int) (v2 : Int) : Prop := Fr mX12_step (d + 1) 0 0 none 0 [(0, (2, v0)), (1, (0, v1)), (2, (0, v2))] [] K H (qi K q)
def FX12_step_53 (d : Nat) (K : Shp) (H : Mem) (q : Int → Mem → Prop) (v0 : Int) (v1 : Int) (v2 : Int) (v5 : Int) (v7 : Int) (v9 : Int) (v11 : Int) : Prop := Fr mX12_step (d + 1) 0 0 none 53 [(0, (2, v0)), (1, (0, v1)), (2, (0, v2)), (5, (1, v5)), (7, (1, v7)), (9, (1, v9)), (11, (0, v11))] [] K H (qi K q)
def FX12_step_157 (d : Nat) (K : Shp) (H : Mem) (q : Int → Mem → Prop) (v0 : Int) (v1 : Int) (v2 : Int) (v5 : Int) (v11 : Int) : Prop := Fr mX12_step (d + 1) 0 0 none 157 [(0, (2, v0)), (1, (0, v1)), (2, (0, v2)), (5, (1, v5)), (11, (1, v11))] [] K H (qi K q)
def FX12_step_176 (d : Nat) (K : Shp) (H : Mem) (q : Int → Mem → Prop) (v0 : Int) (v1 : Int) (v2 : Int) (v5 : Int) (v11 : Int) (v13 : Int) (v15 : Int) : Prop := Fr mX12_step (d + 1) 0 0 none 176 [(0, (2, v0)), (1, (0, v1)), (2, (0, v2)), (5, (1, v5)), (11, (1, v11)), (13, (1, v13)), (15, (0, v15))] [] K H (qi K q)
set_option maxHeartbeats 4000000 in
set_option maxRecDepth 20000 in
theorem bX12_step_0 {d : Nat} {K : Shp} {H : Mem} {q : Int → Mem → Prop} {v0 v1 v2 : Int} (h : ((0 : Int) ≤ v0) ∧ (K[(v0 : Int).toNat]? = some (12, 51)) ∧ (inI (v1 + v2)) ∧ ((0 : Int) ≤ (H (v0 : Int).toNat 3)) ∧ ∃ n5 : Nat, (K[((H (v0 : Int).toNat 3) : Int).toNat]? = some (20, n5)) ∧ ((0 : Int) ≤ (v1 + v2)) ∧ (((v1 + v2) : Int) < n5) ∧ (inL ((H ((H (v0 : Int).toNat 3) : Int).toNat ((v1 + v2) : Int).toNat) * 1073741824)) ∧ (inI ((v1 + v2) - 1)) ∧ ((0 : Int) ≤ ((v1 + v2) - 1)) ∧ ((((v1 + v2) - 1) : Int) < n5) ∧ (∃ n : Nat, (0 : Int) ≤ ((H ((H (v0 : Int).toNat 3) : Int).toNat ((v1 + v2) : Int).toNat) * 1073741824) ∧ (((H ((H (v0 : Int).toNat 3) : Int).toNat ((v1 + v2) : Int).toNat) * 1073741824) : Int) % (2 ^ n : Nat) = 0 ∧ (0 : Int) ≤ (H ((H (v0 : Int).toNat 3) : Int).toNat (((v1 + v2) - 1) : Int).toNat) ∧ ((H ((H (v0 : Int).toNat 3) : Int).toNat (((v1 + v2) - 1) : Int).toNat) : Int) < (2 ^ n : Nat) ∧ inL (((H ((H (v0 : Int).toNat 3) : Int).toNat ((v1 + v2) : Int).toNat) * 1073741824) + (H ((H (v0 : Int).toNat 3) : Int).toNat (((v1 + v2) - 1) : Int).toNat))) ∧ (inI (v2 - 1)) ∧ ((0 : Int) ≤ (H (v0 : Int).toNat 4)) ∧ ∃ n16 : Nat, (K[((H (v0 : Int).toNat 4) : Int).toNat]? = some (20, n16)) ∧ ((0 : Int) ≤ (v2 - 1)) ∧ (((v2 - 1) : Int) < n16) ∧ (((H ((H (v0 : Int).toNat 4) : Int).toNat ((v2 - 1) : Int).toNat) : Int) ≠ 0) ∧ (inL (Int.tdiv (((H ((H (v0 : Int).toNat 3) : Int).toNat ((v1 + v2) : Int).toNat) * 1073741824) + (H ((H (v0 : Int).toNat 3) : Int).toNat (((v1 + v2) - 1) : Int).toNat)) (H ((H (v0 : Int).toNat 4) : Int).toNat ((v2 - 1) : Int).toNat))) ∧ FX12_step_53 d K H q (v0) (v1) (v2) ((min (Int.tdiv (((H ((H (v0 : Int).toNat 3) : Int).toNat ((v1 + v2) : Int).toNat) * 1073741824) + (H ((H (v0 : Int).toNat 3) : Int).toNat (((v1 + v2) - 1) : Int).toNat)) (H ((H (v0 : Int).toNat 4) : Int).toNat ((v2 - 1) : Int).toNat)) 1073741823)) (0) (0) (0)) : FX12_step_0 d K H q (v0) (v1) (v2) := by
  unfold FX12_step_0
  refine r_aload_n 0 dX12_step_0 rfl rfl ?_
  obtain ⟨h1, h⟩ := h
  obtain ⟨h2, h⟩ := h
  refine r_getf cls12 3 dX12_step_1 (by decide) fl_RX12_13 rfl h1 h2 ?_
  refine r_iload_n 1 dX12_step_4 rfl rfl ?_
  refine r_iload_n 2 dX12_step_5 rfl rfl ?_
  obtain ⟨h3, h⟩ := h
  refine r_iadd dX12_step_6 h3 ?_
  obtain ⟨h4, h⟩ := h
  obtain ⟨n5, h⟩ := h
  obtain ⟨h6, h⟩ := h
  obtain ⟨h7, h⟩ := h
  obtain ⟨h8, h⟩ := h
  refine r_iald n5 dX12_step_7 h4 h6 h7 h8 ?_
  refine r_i2l dX12_step_8 ?_
  refine r_bipush dX12_step_9 (by decide) (by decide) ?_
  obtain ⟨h9, h⟩ := h
  refine r_lshl30 dX12_step_11 h9 ?_
  refine r_aload_n 0 dX12_step_12 rfl rfl ?_
  refine r_getf cls12 3 dX12_step_13 (by decide) fl_RX12_13 rfl h1 h2 ?_
  refine r_iload_n 1 dX12_step_16 rfl rfl ?_
  refine r_iload_n 2 dX12_step_17 rfl rfl ?_
  refine r_iadd dX12_step_18 h3 ?_
  refine r_iconst dX12_step_19 (by decide) (by decide) ?_
  obtain ⟨h10, h⟩ := h
  refine r_isub dX12_step_20 h10 ?_
  obtain ⟨h11, h⟩ := h
  obtain ⟨h12, h⟩ := h
  refine r_iald n5 dX12_step_21 h4 h6 h11 h12 ?_
  refine r_i2l dX12_step_22 ?_
  obtain ⟨h13, h⟩ := h
  obtain ⟨nh13, h13a, h13b, h13c, h13d, h13e⟩ := h13
  refine r_lor nh13 dX12_step_23 h13a h13b h13c h13d h13e ?_
  refine r_lstore_n dX12_step_24 rfl (by decide) rfl ?_
  refine r_lload_n 0 dX12_step_25 rfl rfl ?_
  refine r_aload_n 1 dX12_step_26 rfl rfl ?_
  refine r_getf cls12 4 dX12_step_27 (by decide) fl_RX12_16 rfl h1 h2 ?_
  refine r_iload_n 3 dX12_step_30 rfl rfl ?_
  refine r_iconst dX12_step_31 (by decide) (by decide) ?_
  obtain ⟨h14, h⟩ := h
  refine r_isub dX12_step_32 h14 ?_
  obtain ⟨h15, h⟩ := h
  obtain ⟨n16, h⟩ := h
  obtain ⟨h17, h⟩ := h
  obtain ⟨h18, h⟩ := h
  obtain ⟨h19, h⟩ := h
  refine r_iald n16 dX12_step_33 h15 h17 h18 h19 ?_
  refine r_i2l dX12_step_34 ?_
  obtain ⟨h20, h⟩ := h
  obtain ⟨h21, h⟩ := h
  refine r_ldiv dX12_step_35 h20 h21 ?_
  refine r_ldc2 (x := 1073741823) dX12_step_36 kl_RX12_100 (by decide) (by decide) ?_
  refine r_minl dX12_step_39 ml_RX12_149 (Nat.le_of_ble_eq_true rfl) ?_
  refine r_lstore dX12_step_42 (by decide) rfl ?_
  refine r_lconst0 dX12_step_44 ?_
  refine r_lstore dX12_step_45 (by decide) rfl ?_
  refine r_lconst0 dX12_step_47 ?_
  refine r_lstore dX12_step_48 (by decide) rfl ?_
  refine r_iconst dX12_step_50 (by decide) (by decide) ?_
  refine r_istore dX12_step_51 (by decide) rfl ?_
  refine Fr.fewer [5, 6, 7, 3, 2, 1, 0] rfl ?_
  exact h
set_option maxHeartbeats 4000000 in
set_option maxRecDepth 20000 in
theorem bX12_step_53 {d : Nat} {K : Shp} {H : Mem} {q : Int → Mem → Prop} {v0 v1 v2 v5 v7 v9 v11 : Int} (h : ((¬ (v11 : Int) < v2 → ((0 : Int) ≤ v0) ∧ (K[(v0 : Int).toNat]? = some (12, 51)) ∧ (inI (v1 + v2)) ∧ ((0 : Int) ≤ (H (v0 : Int).toNat 3)) ∧ ∃ n6 : Nat, (K[((H (v0 : Int).toNat 3) : Int).toNat]? = some (20, n6)) ∧ ((0 : Int) ≤ (v1 + v2)) ∧ (((v1 + v2) : Int) < n6) ∧ (inL ((H ((H (v0 : Int).toNat 3) : Int).toNat ((v1 + v2) : Int).toNat) - v7)) ∧ (inL (((H ((H (v0 : Int).toNat 3) : Int).toNat ((v1 + v2) : Int).toNat) - v7) - v9)) ∧ FX12_step_157 d K H q (v0) (v1) (v2) (v5) ((((H ((H (v0 : Int).toNat 3) : Int).toNat ((v1 + v2) : Int).toNat) - v7) - v9))) ∧ ((v11 : Int) < v2 → ((0 : Int) ≤ v0) ∧ (K[(v0 : Int).toNat]? = some (12, 51)) ∧ ((0 : Int) ≤ (H (v0 : Int).toNat 4)) ∧ ∃ n15 : Nat, (K[((H (v0 : Int).toNat 4) : Int).toNat]? = some (20, n15)) ∧ ((0 : Int) ≤ v11) ∧ ((v11 : Int) < n15) ∧ (inL (v5 * (H ((H (v0 : Int).toNat 4) : Int).toNat (v11 : Int).toNat))) ∧ (inL (v7 + (v5 * (H ((H (v0 : Int).toNat 4) : Int).toNat (v11 : Int).toNat)))) ∧ (inI (v1 + v11)) ∧ ((0 : Int) ≤ (H (v0 : Int).toNat 3)) ∧ ∃ n23 : Nat, (K[((H (v0 : Int).toNat 3) : Int).toNat]? = some (20, n23)) ∧ ((0 : Int) ≤ (v1 + v11)) ∧ (((v1 + v11) : Int) < n23) ∧ (inL ((H ((H (v0 : Int).toNat 3) : Int).toNat ((v1 + v11) : Int).toNat) - ((v7 + (v5 * (H ((H (v0 : Int).toNat 4) : Int).toNat (v11 : Int).toNat))) % 1073741824))) ∧ (inL (((H ((H (v0 : Int).toNat 3) : Int).toNat ((v1 + v11) : Int).toNat) - ((v7 + (v5 * (H ((H (v0 : Int).toNat 4) : Int).toNat (v11 : Int).toNat))) % 1073741824)) - v9)) ∧ ((0 : Int) ≤ (v7 + (v5 * (H ((H (v0 : Int).toNat 4) : Int).toNat (v11 : Int).toNat)))) ∧ ((¬ ((((H ((H (v0 : Int).toNat 3) : Int).toNat ((v1 + v11) : Int).toNat) - ((v7 + (v5 * (H ((H (v0 : Int).toNat 4) : Int).toNat (v11 : Int).toNat))) % 1073741824)) - v9) : Int) < 0 → (inI ((((H ((H (v0 : Int).toNat 3) : Int).toNat ((v1 + v11) : Int).toNat) - ((v7 + (v5 * (H ((H (v0 : Int).toNat 4) : Int).toNat (v11 : Int).toNat))) % 1073741824)) - v9) % 1073741824)) ∧ ∀ H32 : Mem, H32 = upA H ((H (v0 : Int).toNat 3) : Int).toNat (up1 (H ((H (v0 : Int).toNat 3) : Int).toNat) ((v1 + v11) : Int).toNat ((((H ((H (v0 : Int).toNat 3) : Int).toNat ((v1 + v11) : Int).toNat) - ((v7 + (v5 * (H ((H (v0 : Int).toNat 4) : Int).toNat (v11 : Int).toNat))) % 1073741824)) - v9) % 1073741824)) → (inI (v11 + 1)) ∧ FX12_step_53 d K H32 q (v0) (v1) (v2) (v5) (((v7 + (v5 * (H ((H (v0 : Int).toNat 4) : Int).toNat (v11 : Int).toNat))) / 1073741824)) (0) ((v11 + 1))) ∧ (((((H ((H (v0 : Int).toNat 3) : Int).toNat ((v1 + v11) : Int).toNat) - ((v7 + (v5 * (H ((H (v0 : Int).toNat 4) : Int).toNat (v11 : Int).toNat))) % 1073741824)) - v9) : Int) < 0 → (inI ((((H ((H (v0 : Int).toNat 3) : Int).toNat ((v1 + v11) : Int).toNat) - ((v7 + (v5 * (H ((H (v0 : Int).toNat 4) : Int).toNat (v11 : Int).toNat))) % 1073741824)) - v9) % 1073741824)) ∧ ∀ H35 : Mem, H35 = upA H ((H (v0 : Int).toNat 3) : Int).toNat (up1 (H ((H (v0 : Int).toNat 3) : Int).toNat) ((v1 + v11) : Int).toNat ((((H ((H (v0 : Int).toNat 3) : Int).toNat ((v1 + v11) : Int).toNat) - ((v7 + (v5 * (H ((H (v0 : Int).toNat 4) : Int).toNat (v11 : Int).toNat))) % 1073741824)) - v9) % 1073741824)) → (inI (v11 + 1)) ∧ FX12_step_53 d K H35 q (v0) (v1) (v2) (v5) (((v7 + (v5 * (H ((H (v0 : Int).toNat 4) : Int).toNat (v11 : Int).toNat))) / 1073741824)) (1) ((v11 + 1))))))) : FX12_step_53 d K H q (v0) (v1) (v2) (v5) (v7) (v9) (v11) := by
  unfold FX12_step_53
  refine r_iload 6 dX12_step_53 rfl ?_
  refine r_iload_n 2 dX12_step_55 rfl rfl ?_
  refine r_icmp_ge (tgt := 140) dX12_step_56 (by decide) (fun c1 => ?_) (fun c1 => ?_)
  · replace h := h.1 c1
    refine r_aload_n 0 dX12_step_140 rfl rfl ?_
    obtain ⟨h2, h⟩ := h
    obtain ⟨h3, h⟩ := h
    refine r_getf cls12 3 dX12_step_141 (by decide) fl_RX12_13 rfl h2 h3 ?_
    refine r_iload_n 1 dX12_step_144 rfl rfl ?_
    refine r_iload_n 2 dX12_step_145 rfl rfl ?_
    obtain ⟨h4, h⟩ := h
    refine r_iadd dX12_step_146 h4 ?_
    obtain ⟨h5, h⟩ := h
    obtain ⟨n6, h⟩ := h
    obtain ⟨h7, h⟩ := h
    obtain ⟨h8, h⟩ := h
    obtain ⟨h9, h⟩ := h
    refine r_iald n6 dX12_step_147 h5 h7 h8 h9 ?_
    refine r_i2l dX12_step_148 ?_
    refine r_lload 4 dX12_step_149 rfl ?_
    obtain ⟨h10, h⟩ := h
    refine r_lsub dX12_step_151 h10 ?_
    refine r_lload 5 dX12_step_152 rfl ?_
    obtain ⟨h11, h⟩ := h
    refine r_lsub dX12_step_154 h11 ?_
    refine r_lstore dX12_step_155 (by decide) rfl ?_
    refine Fr.fewer [1, 2, 3, 4, 0] rfl ?_
    exact h
  · replace h := h.2 c1
    refine r_lload 4 dX12_step_59 rfl ?_
    refine r_lload 3 dX12_step_61 rfl ?_
    refine r_aload_n 0 dX12_step_63 rfl rfl ?_
    obtain ⟨h12, h⟩ := h
    obtain ⟨h13, h⟩ := h
    refine r_getf cls12 4 dX12_step_64 (by decide) fl_RX12_16 rfl h12 h13 ?_
    refine r_iload 6 dX12_step_67 rfl ?_
    obtain ⟨h14, h⟩ := h
    obtain ⟨n15, h⟩ := h
    obtain ⟨h16, h⟩ := h
    obtain ⟨h17, h⟩ := h
    obtain ⟨h18, h⟩ := h
    refine r_iald n15 dX12_step_69 h14 h16 h17 h18 ?_
    refine r_i2l dX12_step_70 ?_
    obtain ⟨h19, h⟩ := h
    refine r_lmul dX12_step_71 h19 ?_
    obtain ⟨h20, h⟩ := h
    refine r_ladd dX12_step_72 h20 ?_
    refine r_lstore dX12_step_73 (by decide) rfl ?_
    refine r_aload_n 1 dX12_step_75 rfl rfl ?_
    refine r_getf cls12 3 dX12_step_76 (by decide) fl_RX12_13 rfl h12 h13 ?_
    refine r_iload_n 2 dX12_step_79 rfl rfl ?_
    refine r_iload 6 dX12_step_80 rfl ?_
    obtain ⟨h21, h⟩ := h
    refine r_iadd dX12_step_82 h21 ?_
    obtain ⟨h22, h⟩ := h
    obtain ⟨n23, h⟩ := h
    obtain ⟨h24, h⟩ := h
    obtain ⟨h25, h⟩ := h
    obtain ⟨h26, h⟩ := h
    refine r_iald n23 dX12_step_83 h22 h24 h25 h26 ?_
    refine r_i2l dX12_step_84 ?_
    refine r_lload 0 dX12_step_85 rfl ?_
    refine r_ldc2 (x := 1073741823) dX12_step_87 kl_RX12_100 (by decide) (by decide) ?_
    refine r_land30 dX12_step_90 ?_
    obtain ⟨h27, h⟩ := h
    refine r_lsub dX12_step_91 h27 ?_
    refine r_lload 5 dX12_step_92 rfl ?_
    obtain ⟨h28, h⟩ := h
    refine r_lsub dX12_step_94 h28 ?_
    refine r_lstore dX12_step_95 (by decide) rfl ?_
    refine r_lload 1 dX12_step_97 rfl ?_
    refine r_bipush dX12_step_99 (by decide) (by decide) ?_
    obtain ⟨h29, h⟩ := h
    refine r_lushr30 dX12_step_101 h29 ?_
    refine r_lstore dX12_step_102 (by decide) rfl ?_
    refine r_lload 1 dX12_step_104 rfl ?_
    refine r_lconst0 dX12_step_106 ?_
    refine r_lcmp dX12_step_107 ?_
    refine r_if_ge (tgt := 115) dX12_step_108 (by decide) (fun c30 => ?_) (fun c30 => ?_)
    · replace h := h.1 (fun q => c30 (cmpL_lt.mpr q))
      refine r_lconst0 dX12_step_115 ?_
      refine r_lstore dX12_step_116 (by decide) rfl ?_
      refine r_aload_n 3 dX12_step_118 rfl rfl ?_
      refine r_getf cls12 3 dX12_step_119 (by decide) fl_RX12_13 rfl h12 h13 ?_
      refine r_iload_n 4 dX12_step_122 rfl rfl ?_
      refine r_iload 7 dX12_step_123 rfl ?_
      refine r_iadd dX12_step_125 h21 ?_
      refine r_lload 2 dX12_step_126 rfl ?_
      refine r_ldc2 (x := 1073741823) dX12_step_128 kl_RX12_100 (by decide) (by decide) ?_
      refine r_land30 dX12_step_131 ?_
      obtain ⟨h31, h⟩ := h
      refine r_l2i dX12_step_132 h31 ?_
      refine r_iast n23 dX12_step_133 h22 h24 h25 h26 ?_
      replace h := h _ rfl
      generalize upA H ((H (v0 : Int).toNat 3) : Int).toNat (up1 (H ((H (v0 : Int).toNat 3) : Int).toNat) ((v1 + v11) : Int).toNat ((((H ((H (v0 : Int).toNat 3) : Int).toNat ((v1 + v11) : Int).toNat) - ((v7 + (v5 * (H ((H (v0 : Int).toNat 4) : Int).toNat (v11 : Int).toNat))) % 1073741824)) - v9) % 1073741824)) = H32 at h ⊢
      obtain ⟨h33, h⟩ := h
      refine r_iinc 7 dX12_step_134 (by decide) rfl h33 rfl ?_
      refine r_goto (tgt := 53) dX12_step_137 (by decide) ?_
      refine Fr.fewer [4, 5, 6, 7, 2, 1, 0] rfl ?_
      exact h
    · replace h := h.2 (cmpL_lt.mp c30)
      refine r_lconst1 dX12_step_111 ?_
      refine r_goto (tgt := 116) dX12_step_112 (by decide) ?_
      refine r_lstore dX12_step_116 (by decide) rfl ?_
      refine r_aload_n 3 dX12_step_118 rfl rfl ?_
      refine r_getf cls12 3 dX12_step_119 (by decide) fl_RX12_13 rfl h12 h13 ?_
      refine r_iload_n 4 dX12_step_122 rfl rfl ?_
      refine r_iload 7 dX12_step_123 rfl ?_
      refine r_iadd dX12_step_125 h21 ?_
      refine r_lload 2 dX12_step_126 rfl ?_
      refine r_ldc2 (x := 1073741823) dX12_step_128 kl_RX12_100 (by decide) (by decide) ?_
      refine r_land30 dX12_step_131 ?_
      obtain ⟨h34, h⟩ := h
      refine r_l2i dX12_step_132 h34 ?_
      refine r_iast n23 dX12_step_133 h22 h24 h25 h26 ?_
      replace h := h _ rfl
      generalize upA H ((H (v0 : Int).toNat 3) : Int).toNat (up1 (H ((H (v0 : Int).toNat 3) : Int).toNat) ((v1 + v11) : Int).toNat ((((H ((H (v0 : Int).toNat 3) : Int).toNat ((v1 + v11) : Int).toNat) - ((v7 + (v5 * (H ((H (v0 : Int).toNat 4) : Int).toNat (v11 : Int).toNat))) % 1073741824)) - v9) % 1073741824)) = H35 at h ⊢
      obtain ⟨h36, h⟩ := h
      refine r_iinc 7 dX12_step_134 (by decide) rfl h36 rfl ?_
      refine r_goto (tgt := 53) dX12_step_137 (by decide) ?_
      refine Fr.fewer [4, 5, 6, 7, 2, 1, 0] rfl ?_
      exact h
set_option maxHeartbeats 4000000 in
set_option maxRecDepth 20000 in
theorem bX12_step_157 {d : Nat} {K : Shp} {H : Mem} {q : Int → Mem → Prop} {v0 v1 v2 v5 v11 : Int} (h : ((¬ (v11 : Int) < 0 → ((0 : Int) ≤ v0) ∧ (K[(v0 : Int).toNat]? = some (12, 51)) ∧ (inI (v1 + v2)) ∧ (inI v11) ∧ ((0 : Int) ≤ (H (v0 : Int).toNat 3)) ∧ ∃ n7 : Nat, (K[((H (v0 : Int).toNat 3) : Int).toNat]? = some (20, n7)) ∧ ((0 : Int) ≤ (v1 + v2)) ∧ (((v1 + v2) : Int) < n7) ∧ ∀ H11 : Mem, H11 = upA H ((H (v0 : Int).toNat 3) : Int).toNat (up1 (H ((H (v0 : Int).toNat 3) : Int).toNat) ((v1 + v2) : Int).toNat v11) → (inI v5) ∧ q v5 H11) ∧ ((v11 : Int) < 0 → (inL (v5 - 1)) ∧ FX12_step_176 d K H q (v0) (v1) (v2) ((v5 - 1)) (v11) (0) (0)))) : FX12_step_157 d K H q (v0) (v1) (v2) (v5) (v11) := by
  unfold FX12_step_157
  refine r_lload 4 dX12_step_157 rfl ?_
  refine r_lconst0 dX12_step_159 ?_
  refine r_lcmp dX12_step_160 ?_
  refine r_if_ge (tgt := 245) dX12_step_161 (by decide) (fun c1 => ?_) (fun c1 => ?_)
  · replace h := h.1 (fun q => c1 (cmpL_lt.mpr q))
    refine r_aload_n 0 dX12_step_245 rfl rfl ?_
    obtain ⟨h2, h⟩ := h
    obtain ⟨h3, h⟩ := h
    refine r_getf cls12 3 dX12_step_246 (by decide) fl_RX12_13 rfl h2 h3 ?_
    refine r_iload_n 1 dX12_step_249 rfl rfl ?_
    refine r_iload_n 2 dX12_step_250 rfl rfl ?_
    obtain ⟨h4, h⟩ := h
    refine r_iadd dX12_step_251 h4 ?_
    refine r_lload 4 dX12_step_252 rfl ?_
    obtain ⟨h5, h⟩ := h
    refine r_l2i dX12_step_254 h5 ?_
    obtain ⟨h6, h⟩ := h
    obtain ⟨n7, h⟩ := h
    obtain ⟨h8, h⟩ := h
    obtain ⟨h9, h⟩ := h
    obtain ⟨h10, h⟩ := h
    refine r_iast n7 dX12_step_255 h6 h8 h9 h10 ?_
    replace h := h _ rfl
    generalize upA H ((H (v0 : Int).toNat 3) : Int).toNat (up1 (H ((H (v0 : Int).toNat 3) : Int).toNat) ((v1 + v2) : Int).toNat v11) = H11 at h ⊢
    refine r_lload 3 dX12_step_256 rfl ?_
    obtain ⟨h12, h⟩ := h
    refine r_l2i dX12_step_258 h12 ?_
    exact r_iret dX12_step_259 rfl ⟨rfl, _, rfl, h⟩
  · replace h := h.2 (cmpL_lt.mp c1)
    refine r_lload 3 dX12_step_164 rfl ?_
    refine r_lconst1 dX12_step_166 ?_
    obtain ⟨h13, h⟩ := h
    refine r_lsub dX12_step_167 h13 ?_
    refine r_lstore dX12_step_168 (by decide) rfl ?_
    refine r_lconst0 dX12_step_170 ?_
    refine r_lstore dX12_step_171 (by decide) rfl ?_
    refine r_iconst dX12_step_173 (by decide) (by decide) ?_
    refine r_istore dX12_step_174 (by decide) rfl ?_
    refine Fr.fewer [3, 4, 5, 2, 6, 1, 0] rfl ?_
    exact h
set_option maxHeartbeats 4000000 in
set_option maxRecDepth 20000 in
theorem bX12_step_176 {d : Nat} {K : Shp} {H : Mem} {q : Int → Mem → Prop} {v0 v1 v2 v5 v11 v13 v15 : Int} (h : ((¬ (v15 : Int) < v2 → (inL (v11 + v13)) ∧ FX12_step_157 d K H q (v0) (v1) (v2) (v5) ((v11 + v13))) ∧ ((v15 : Int) < v2 → ((0 : Int) ≤ v0) ∧ (K[(v0 : Int).toNat]? = some (12, 51)) ∧ (inI (v1 + v15)) ∧ ((0 : Int) ≤ (H (v0 : Int).toNat 3)) ∧ ∃ n7 : Nat, (K[((H (v0 : Int).toNat 3) : Int).toNat]? = some (20, n7)) ∧ ((0 : Int) ≤ (v1 + v15)) ∧ (((v1 + v15) : Int) < n7) ∧ ((0 : Int) ≤ (H (v0 : Int).toNat 4)) ∧ ∃ n12 : Nat, (K[((H (v0 : Int).toNat 4) : Int).toNat]? = some (20, n12)) ∧ ((0 : Int) ≤ v15) ∧ ((v15 : Int) < n12) ∧ (inL ((H ((H (v0 : Int).toNat 3) : Int).toNat ((v1 + v15) : Int).toNat) + (H ((H (v0 : Int).toNat 4) : Int).toNat (v15 : Int).toNat))) ∧ (inL (v13 + ((H ((H (v0 : Int).toNat 3) : Int).toNat ((v1 + v15) : Int).toNat) + (H ((H (v0 : Int).toNat 4) : Int).toNat (v15 : Int).toNat)))) ∧ (inI ((v13 + ((H ((H (v0 : Int).toNat 3) : Int).toNat ((v1 + v15) : Int).toNat) + (H ((H (v0 : Int).toNat 4) : Int).toNat (v15 : Int).toNat))) % 1073741824)) ∧ ∀ H19 : Mem, H19 = upA H ((H (v0 : Int).toNat 3) : Int).toNat (up1 (H ((H (v0 : Int).toNat 3) : Int).toNat) ((v1 + v15) : Int).toNat ((v13 + ((H ((H (v0 : Int).toNat 3) : Int).toNat ((v1 + v15) : Int).toNat) + (H ((H (v0 : Int).toNat 4) : Int).toNat (v15 : Int).toNat))) % 1073741824)) → ((0 : Int) ≤ (v13 + ((H ((H (v0 : Int).toNat 3) : Int).toNat ((v1 + v15) : Int).toNat) + (H ((H (v0 : Int).toNat 4) : Int).toNat (v15 : Int).toNat)))) ∧ (inI (v15 + 1)) ∧ FX12_step_176 d K H19 q (v0) (v1) (v2) (v5) (v11) (((v13 + ((H ((H (v0 : Int).toNat 3) : Int).toNat ((v1 + v15) : Int).toNat) + (H ((H (v0 : Int).toNat 4) : Int).toNat (v15 : Int).toNat))) / 1073741824)) ((v15 + 1))))) : FX12_step_176 d K H q (v0) (v1) (v2) (v5) (v11) (v13) (v15) := by
  unfold FX12_step_176
  refine r_iload 6 dX12_step_176 rfl ?_
  refine r_iload_n 2 dX12_step_178 rfl rfl ?_
  refine r_icmp_ge (tgt := 235) dX12_step_179 (by decide) (fun c1 => ?_) (fun c1 => ?_)
  · replace h := h.1 c1
    refine r_lload 4 dX12_step_235 rfl ?_
    refine r_lload 5 dX12_step_237 rfl ?_
    obtain ⟨h2, h⟩ := h
    refine r_ladd dX12_step_239 h2 ?_
    refine r_lstore dX12_step_240 (by decide) rfl ?_
    refine r_goto (tgt := 157) dX12_step_242 (by decide) ?_
    refine Fr.fewer [1, 2, 3, 4, 0] rfl ?_
    exact h
  · replace h := h.2 c1
    refine r_lload 5 dX12_step_182 rfl ?_
    refine r_aload_n 0 dX12_step_184 rfl rfl ?_
    obtain ⟨h3, h⟩ := h
    obtain ⟨h4, h⟩ := h
    refine r_getf cls12 3 dX12_step_185 (by decide) fl_RX12_13 rfl h3 h4 ?_
    refine r_iload_n 1 dX12_step_188 rfl rfl ?_
    refine r_iload 6 dX12_step_189 rfl ?_
    obtain ⟨h5, h⟩ := h
    refine r_iadd dX12_step_191 h5 ?_
    obtain ⟨h6, h⟩ := h
    obtain ⟨n7, h⟩ := h
    obtain ⟨h8, h⟩ := h
    obtain ⟨h9, h⟩ := h
    obtain ⟨h10, h⟩ := h
    refine r_iald n7 dX12_step_192 h6 h8 h9 h10 ?_
    refine r_i2l dX12_step_193 ?_
    refine r_aload_n 0 dX12_step_194 rfl rfl ?_
    refine r_getf cls12 4 dX12_step_195 (by decide) fl_RX12_16 rfl h3 h4 ?_
    refine r_iload 6 dX12_step_198 rfl ?_
    obtain ⟨h11, h⟩ := h
    obtain ⟨n12, h⟩ := h
    obtain ⟨h13, h⟩ := h
    obtain ⟨h14, h⟩ := h
    obtain ⟨h15, h⟩ := h
    refine r_iald n12 dX12_step_200 h11 h13 h14 h15 ?_
    refine r_i2l dX12_step_201 ?_
    obtain ⟨h16, h⟩ := h
    refine r_ladd dX12_step_202 h16 ?_
    obtain ⟨h17, h⟩ := h
    refine r_ladd dX12_step_203 h17 ?_
    refine r_lstore dX12_step_204 (by decide) rfl ?_
    refine r_aload_n 1 dX12_step_206 rfl rfl ?_
    refine r_getf cls12 3 dX12_step_207 (by decide) fl_RX12_13 rfl h3 h4 ?_
    refine r_iload_n 2 dX12_step_210 rfl rfl ?_
    refine r_iload 6 dX12_step_211 rfl ?_
    refine r_iadd dX12_step_213 h5 ?_
    refine r_lload 0 dX12_step_214 rfl ?_
    refine r_ldc2 (x := 1073741823) dX12_step_216 kl_RX12_100 (by decide) (by decide) ?_
    refine r_land30 dX12_step_219 ?_
    obtain ⟨h18, h⟩ := h
    refine r_l2i dX12_step_220 h18 ?_
    refine r_iast n7 dX12_step_221 h6 h8 h9 h10 ?_
    replace h := h _ rfl
    generalize upA H ((H (v0 : Int).toNat 3) : Int).toNat (up1 (H ((H (v0 : Int).toNat 3) : Int).toNat) ((v1 + v15) : Int).toNat ((v13 + ((H ((H (v0 : Int).toNat 3) : Int).toNat ((v1 + v15) : Int).toNat) + (H ((H (v0 : Int).toNat 4) : Int).toNat (v15 : Int).toNat))) % 1073741824)) = H19 at h ⊢
    refine r_lload 0 dX12_step_222 rfl ?_
    refine r_bipush dX12_step_224 (by decide) (by decide) ?_
    obtain ⟨h20, h⟩ := h
    refine r_lushr30 dX12_step_226 h20 ?_
    refine r_lstore dX12_step_227 (by decide) rfl ?_
    obtain ⟨h21, h⟩ := h
    refine r_iinc 6 dX12_step_229 (by decide) rfl h21 rfl ?_
    refine r_goto (tgt := 176) dX12_step_232 (by decide) ?_
    refine Fr.fewer [2, 3, 4, 5, 6, 1, 0] rfl ?_
    exact h
set_option maxHeartbeats 4000000 in
set_option maxRecDepth 20000 in
theorem eX12_step {d : Nat} {K : Shp} {H : Mem} {q : Int → Mem → Prop} {v0 v1 v2 : Int} (h : inI v1 → inI v2 → Rng K H → FX12_step_0 d K H q v0 v1 v2) : Ci mX12_step (d + 1) [(2, v0), (0, v1), (0, v2)] K H q := Call.of rfl (Nat.le_of_ble_eq_true rfl) (fun o r => h (o (0, v1) (by simp)) (o (0, v2) (by simp)) r)
def FX12_divided_0 (d : Nat) (K : Shp) (H : Mem) (q : Int → Mem → Prop) (v0 : Int) (v1 : Int) (v2 : Int) : Prop := Fr mX12_divided (d + 1) 0 0 none 0 [(0, (2, v0)), (1, (0, v1)), (2, (0, v2))] [] K H (qi K q)
def FX12_divided_18 (d : Nat) (K : Shp) (H : Mem) (q : Int → Mem → Prop) (v0 : Int) (v1 : Int) (v2 : Int) (v3 : Int) (v4 : Int) : Prop := Fr mX12_divided (d + 1) 0 0 none 18 [(0, (2, v0)), (1, (0, v1)), (2, (0, v2)), (3, (0, v3)), (4, (0, v4))] [] K H (qi K q)
set_option maxHeartbeats 4000000 in
set_option maxRecDepth 20000 in
theorem bX12_divided_0 {d : Nat} {K : Shp} {H : Mem} {q : Int → Mem → Prop} {v0 v1 v2 : Int} (h : ((0 : Int) ≤ v0) ∧ (K[(v0 : Int).toNat]? = some (12, 51)) ∧ Cv mX12_divide d [(2, v0), (0, v1), (0, v2)] K H (fun H3 => Ci mX12_room d [(2, v0), (0, (H3 (v0 : Int).toNat 7))] K H3 (fun x6 H5 => FX12_divided_18 d K H5 q (v0) (v1) (v2) (x6) (0)))) : FX12_divided_0 d K H q (v0) (v1) (v2) := by
  unfold FX12_divided_0
  refine r_aload_n 0 dX12_divided_0 rfl rfl ?_
  refine r_iload_n 1 dX12_divided_1 rfl rfl ?_
  refine r_iload_n 2 dX12_divided_2 rfl rfl ?_
  obtain ⟨h1, h⟩ := h
  obtain ⟨h2, h⟩ := h
  refine r_invV (M := mX12_divided) (As := [(0, v1), (0, v2)]) (st := []) (X := v0) (mc := 0) (ms := 0) (fc := 0) (fs := 0) h ok_X12_divide cls12 im_X12_divide se_X12_divide ml_RX12_153 dX12_divided_3 rfl h1 h2 (Nat.le_of_ble_eq_true rfl) rfl ?_
  rintro r K1 H3 ⟨rfl, rfl, h⟩ -
  show Fr mX12_divided (d + 1) 0 0 none 6 [(0, (2, v0)), (1, (0, v1)), (2, (0, v2))] [] _ H3 _
  refine r_aload_n 0 dX12_divided_6 rfl rfl ?_
  refine r_aload_n 0 dX12_divided_7 rfl rfl ?_
  refine r_getf cls12 7 dX12_divided_8 (by decide) fl_RX12_138 rfl h1 h2 ?_
  refine r_invV (M := mX12_divided) (As := [(0, (H3 (v0 : Int).toNat 7))]) (st := []) (X := v0) (mc := 0) (ms := 0) (fc := 0) (fs := 0) h ok_X12_room cls12 im_X12_room se_X12_room ml_RX12_96 dX12_divided_11 rfl h1 h2 (Nat.le_of_ble_eq_true rfl) rfl ?_
  rintro r K1 H5 ⟨rfl, x6, rfl, h⟩ -
  show Fr mX12_divided (d + 1) 0 0 none 14 [(0, (2, v0)), (1, (0, v1)), (2, (0, v2))] [(0, x6)] _ H5 _
  refine r_istore_n dX12_divided_14 rfl (by decide) rfl ?_
  refine r_iconst dX12_divided_15 (by decide) (by decide) ?_
  refine r_istore dX12_divided_16 (by decide) rfl ?_
  refine Fr.fewer [2, 3, 4, 1, 0] rfl ?_
  exact h
set_option maxHeartbeats 4000000 in
set_option maxRecDepth 20000 in
theorem bX12_divided_18 {d : Nat} {K : Shp} {H : Mem} {q : Int → Mem → Prop} {v0 v1 v2 v3 v4 : Int} (h : ((0 : Int) ≤ v0) ∧ (K[(v0 : Int).toNat]? = some (12, 51)) ∧ ((¬ (v4 : Int) < (H (v0 : Int).toNat 7) → Ci mX12_sign d [(2, v0), (0, v1)] K H (fun x5 H4 => Ci mX12_sign d [(2, v0), (0, v2)] K H4 (fun x7 H6 => (((x5 : Int) = x7 → Ci mX12_done d [(2, v0), (0, v3), (0, (H (v0 : Int).toNat 7)), (0, 0)] K H6 (fun x10 H9 => q x10 H9)) ∧ (¬ (x5 : Int) = x7 → ((((H6 (v0 : Int).toNat 7) : Int) ≤ 0 → Ci mX12_done d [(2, v0), (0, v3), (0, (H (v0 : Int).toNat 7)), (0, 0)] K H6 (fun x13 H12 => q x13 H12)) ∧ (¬ ((H6 (v0 : Int).toNat 7) : Int) ≤ 0 → Ci mX12_done d [(2, v0), (0, v3), (0, (H (v0 : Int).toNat 7)), (0, 1)] K H6 (fun x15 H14 => q x15 H14)))))))) ∧ ((v4 : Int) < (H (v0 : Int).toNat 7) → (inI (v3 + 1)) ∧ (inI ((v3 + 1) + v4)) ∧ ((0 : Int) ≤ (H (v0 : Int).toNat 5)) ∧ ∃ n19 : Nat, (K[((H (v0 : Int).toNat 5) : Int).toNat]? = some (20, n19)) ∧ ((0 : Int) ≤ v4) ∧ ((v4 : Int) < n19) ∧ ((0 : Int) ≤ (H (v0 : Int).toNat 1)) ∧ ∃ n24 : Nat, (K[((H (v0 : Int).toNat 1) : Int).toNat]? = some (20, n24)) ∧ ((0 : Int) ≤ ((v3 + 1) + v4)) ∧ ((((v3 + 1) + v4) : Int) < n24) ∧ ∀ H28 : Mem, H28 = upA H ((H (v0 : Int).toNat 1) : Int).toNat (up1 (H ((H (v0 : Int).toNat 1) : Int).toNat) (((v3 + 1) + v4) : Int).toNat (H ((H (v0 : Int).toNat 5) : Int).toNat (v4 : Int).toNat)) → (inI (v4 + 1)) ∧ FX12_divided_18 d K H28 q (v0) (v1) (v2) (v3) ((v4 + 1))))) : FX12_divided_18 d K H q (v0) (v1) (v2) (v3) (v4) := by
  unfold FX12_divided_18
  refine r_iload 4 dX12_divided_18 rfl ?_
  refine r_aload_n 0 dX12_divided_20 rfl rfl ?_
  obtain ⟨h1, h⟩ := h
  obtain ⟨h2, h⟩ := h
  refine r_getf cls12 7 dX12_divided_21 (by decide) fl_RX12_138 rfl h1 h2 ?_
  refine r_icmp_ge (tgt := 51) dX12_divided_24 (by decide) (fun c3 => ?_) (fun c3 => ?_)
  · replace h := h.1 c3
    refine r_aload_n 0 dX12_divided_51 rfl rfl ?_
    refine r_iload_n 3 dX12_divided_52 rfl rfl ?_
    refine r_aload_n 0 dX12_divided_53 rfl rfl ?_
    refine r_getf cls12 7 dX12_divided_54 (by decide) fl_RX12_138 rfl h1 h2 ?_
    refine r_aload_n 0 dX12_divided_57 rfl rfl ?_
    refine r_iload_n 1 dX12_divided_58 rfl rfl ?_
    refine r_invV (M := mX12_divided) (As := [(0, v1)]) (st := [(0, (H (v0 : Int).toNat 7)), (0, v3), (2, v0)]) (X := v0) (mc := 0) (ms := 0) (fc := 0) (fs := 0) h ok_X12_sign cls12 im_X12_sign se_X12_sign ml_RX12_112 dX12_divided_59 rfl h1 h2 (Nat.le_of_ble_eq_true rfl) rfl ?_
    rintro r K1 H4 ⟨rfl, x5, rfl, h⟩ -
    show Fr mX12_divided (d + 1) 0 0 none 62 [(0, (2, v0)), (1, (0, v1)), (2, (0, v2)), (3, (0, v3)), (4, (0, v4))] [(0, x5), (0, (H (v0 : Int).toNat 7)), (0, v3), (2, v0)] _ H4 _
    refine r_aload_n 0 dX12_divided_62 rfl rfl ?_
    refine r_iload_n 2 dX12_divided_63 rfl rfl ?_
    refine r_invV (M := mX12_divided) (As := [(0, v2)]) (st := [(0, x5), (0, (H (v0 : Int).toNat 7)), (0, v3), (2, v0)]) (X := v0) (mc := 0) (ms := 0) (fc := 0) (fs := 0) h ok_X12_sign cls12 im_X12_sign se_X12_sign ml_RX12_112 dX12_divided_64 rfl h1 h2 (Nat.le_of_ble_eq_true rfl) rfl ?_
    rintro r K1 H6 ⟨rfl, x7, rfl, h⟩ -
    show Fr mX12_divided (d + 1) 0 0 none 67 [(0, (2, v0)), (1, (0, v1)), (2, (0, v2)), (3, (0, v3)), (4, (0, v4))] [(0, x7), (0, x5), (0, (H (v0 : Int).toNat 7)), (0, v3), (2, v0)] _ H6 _
    refine r_icmp_eq (tgt := 81) dX12_divided_67 (by decide) (fun c8 => ?_) (fun c8 => ?_)
    · replace h := h.1 c8
      refine r_iconst dX12_divided_81 (by decide) (by decide) ?_
      refine r_invV (M := mX12_divided) (As := [(0, v3), (0, (H (v0 : Int).toNat 7)), (0, 0)]) (st := []) (X := v0) (mc := 0) (ms := 0) (fc := 0) (fs := 0) h ok_X12_done cls12 im_X12_done se_X12_done ml_RX12_102 dX12_divided_82 rfl h1 h2 (Nat.le_of_ble_eq_true rfl) rfl ?_
      rintro r K1 H9 ⟨rfl, x10, rfl, h⟩ -
      show Fr mX12_divided (d + 1) 0 0 none 85 [(0, (2, v0)), (1, (0, v1)), (2, (0, v2)), (3, (0, v3)), (4, (0, v4))] [(0, x10)] _ H9 _
      exact r_iret dX12_divided_85 rfl ⟨rfl, _, rfl, h⟩
    · replace h := h.2 c8
      refine r_aload_n 0 dX12_divided_70 rfl rfl ?_
      refine r_getf cls12 7 dX12_divided_71 (by decide) fl_RX12_138 rfl h1 h2 ?_
      refine r_if_le (tgt := 81) dX12_divided_74 (by decide) (fun c11 => ?_) (fun c11 => ?_)
      · replace h := h.1 c11
        refine r_iconst dX12_divided_81 (by decide) (by decide) ?_
        refine r_invV (M := mX12_divided) (As := [(0, v3), (0, (H (v0 : Int).toNat 7)), (0, 0)]) (st := []) (X := v0) (mc := 0) (ms := 0) (fc := 0) (fs := 0) h ok_X12_done cls12 im_X12_done se_X12_done ml_RX12_102 dX12_divided_82 rfl h1 h2 (Nat.le_of_ble_eq_true rfl) rfl ?_
        rintro r K1 H12 ⟨rfl, x13, rfl, h⟩ -
        show Fr mX12_divided (d + 1) 0 0 none 85 [(0, (2, v0)), (1, (0, v1)), (2, (0, v2)), (3, (0, v3)), (4, (0, v4))] [(0, x13)] _ H12 _
        exact r_iret dX12_divided_85 rfl ⟨rfl, _, rfl, h⟩
      · replace h := h.2 c11
        refine r_iconst dX12_divided_77 (by decide) (by decide) ?_
        refine r_goto (tgt := 82) dX12_divided_78 (by decide) ?_
        refine r_invV (M := mX12_divided) (As := [(0, v3), (0, (H (v0 : Int).toNat 7)), (0, 1)]) (st := []) (X := v0) (mc := 0) (ms := 0) (fc := 0) (fs := 0) h ok_X12_done cls12 im_X12_done se_X12_done ml_RX12_102 dX12_divided_82 rfl h1 h2 (Nat.le_of_ble_eq_true rfl) rfl ?_
        rintro r K1 H14 ⟨rfl, x15, rfl, h⟩ -
        show Fr mX12_divided (d + 1) 0 0 none 85 [(0, (2, v0)), (1, (0, v1)), (2, (0, v2)), (3, (0, v3)), (4, (0, v4))] [(0, x15)] _ H14 _
        exact r_iret dX12_divided_85 rfl ⟨rfl, _, rfl, h⟩
  · replace h := h.2 c3
    refine r_aload_n 0 dX12_divided_27 rfl rfl ?_
    refine r_getf cls12 1 dX12_divided_28 (by decide) fl_RX12_7 rfl h1 h2 ?_
    refine r_iload_n 3 dX12_divided_31 rfl rfl ?_
    refine r_iconst dX12_divided_32 (by decide) (by decide) ?_
    obtain ⟨h16, h⟩ := h
    refine r_iadd dX12_divided_33 h16 ?_
    refine r_iload 4 dX12_divided_34 rfl ?_
    obtain ⟨h17, h⟩ := h
    refine r_iadd dX12_divided_36 h17 ?_
    refine r_aload_n 0 dX12_divided_37 rfl rfl ?_
    refine r_getf cls12 5 dX12_divided_38 (by decide) fl_RX12_19 rfl h1 h2 ?_
    refine r_iload 4 dX12_divided_41 rfl ?_
    obtain ⟨h18, h⟩ := h
    obtain ⟨n19, h⟩ := h
    obtain ⟨h20, h⟩ := h
    obtain ⟨h21, h⟩ := h
    obtain ⟨h22, h⟩ := h
    refine r_iald n19 dX12_divided_43 h18 h20 h21 h22 ?_
    obtain ⟨h23, h⟩ := h
    obtain ⟨n24, h⟩ := h
    obtain ⟨h25, h⟩ := h
    obtain ⟨h26, h⟩ := h
    obtain ⟨h27, h⟩ := h
    refine r_iast n24 dX12_divided_44 h23 h25 h26 h27 ?_
    replace h := h _ rfl
    generalize upA H ((H (v0 : Int).toNat 1) : Int).toNat (up1 (H ((H (v0 : Int).toNat 1) : Int).toNat) (((v3 + 1) + v4) : Int).toNat (H ((H (v0 : Int).toNat 5) : Int).toNat (v4 : Int).toNat)) = H28 at h ⊢
    obtain ⟨h29, h⟩ := h
    refine r_iinc 4 dX12_divided_45 (by decide) rfl h29 rfl ?_
    refine r_goto (tgt := 18) dX12_divided_48 (by decide) ?_
    refine Fr.fewer [1, 2, 3, 4, 0] rfl ?_
    exact h
set_option maxHeartbeats 4000000 in
set_option maxRecDepth 20000 in
theorem eX12_divided {d : Nat} {K : Shp} {H : Mem} {q : Int → Mem → Prop} {v0 v1 v2 : Int} (h : inI v1 → inI v2 → Rng K H → FX12_divided_0 d K H q v0 v1 v2) : Ci mX12_divided (d + 1) [(2, v0), (0, v1), (0, v2)] K H q := Call.of rfl (Nat.le_of_ble_eq_true rfl) (fun o r => h (o (0, v1) (by simp)) (o (0, v2) (by simp)) r)
def FX12_common_0 (d : Nat) (K : Shp) (H : Mem) (q : Int → Mem → Prop) (v0 : Int) (v1 : Int) (v2 : Int) : Prop := Fr mX12_common (d + 1) 0 0 none 0 [(0, (2, v0)), (1, (0, v1)), (2, (0, v2))] [] K H (qi K q)
def FX12_common_60 (d : Nat) (K : Shp) (H : Mem) (q : Int → Mem → Prop) (v0 : Int) (v3 : Int) (v5 : Int) (v6 : Int) (v7 : Int) : Prop := Fr mX12_common (d + 1) 0 0 none 60 [(0, (2, v0)), (3, (0, v3)), (5, (0, v5)), (6, (0, v6)), (7, (0, v7))] [] K H (qi K q)
def FX12_common_157 (d : Nat) (K : Shp) (H : Mem) (q : Int → Mem → Prop) (v0 : Int) (v3 : Int) (v5 : Int) (v8 : Int) (v9 : Int) : Prop := Fr mX12_common (d + 1) 0 0 none 157 [(0, (2, v0)), (3, (0, v3)), (5, (0, v5)), (8, (0, v8)), (9, (0, v9))] [] K H (qi K q)
def FX12_common_92 (d : Nat) (K : Shp) (H : Mem) (q : Int → Mem → Prop) (v0 : Int) (v3 : Int) (v5 : Int) (v6 : Int) (v7 : Int) (v8 : Int) : Prop := Fr mX12_common (d + 1) 0 0 none 92 [(0, (2, v0)), (3, (0, v3)), (5, (0, v5)), (6, (0, v6)), (7, (0, v7)), (8, (0, v8))] [] K H (qi K q)
set_option maxHeartbeats 4000000 in
set_option maxRecDepth 20000 in
theorem bX12_common_0 {d : Nat} {K : Shp} {H : Mem} {q : Int → Mem → Prop} {v0 v1 v2 : Int} (h : ((0 : Int) ≤ v0) ∧ (K[(v0 : Int).toNat]? = some (12, 51)) ∧ Ci mX12_places d [(2, v0), (0, v1)] K H (fun x4 H3 => Ci mX12_places d [(2, v0), (0, v2)] K H3 (fun x6 H5 => (inI ((max x4 x6) + 2)) ∧ Ci mX12_room d [(2, v0), (0, ((max x4 x6) + 2))] K H5 (fun x9 H8 => Ci mX12_room d [(2, v0), (0, ((max x4 x6) + 2))] K H8 (fun x11 H10 => Ci mX12_room d [(2, v0), (0, ((max x4 x6) + 2))] K H10 (fun x13 H12 => Cv mX12_put d [(2, v0), (0, x9), (0, v1)] K H12 (fun H14 => Cv mX12_put d [(2, v0), (0, x11), (0, v2)] K H14 (fun H16 => FX12_common_60 d K H16 q (v0) ((H (v0 : Int).toNat 2)) (x9) (x11) (x13))))))))) : FX12_common_0 d K H q (v0) (v1) (v2) := by
  unfold FX12_common_0
  refine r_aload_n 0 dX12_common_0 rfl rfl ?_
  obtain ⟨h1, h⟩ := h
  obtain ⟨h2, h⟩ := h
  refine r_getf cls12 2 dX12_common_1 (by decide) fl_RX12_93 rfl h1 h2 ?_
  refine r_istore_n dX12_common_4 rfl (by decide) rfl ?_
  refine r_aload_n 1 dX12_common_5 rfl rfl ?_
  refine r_iload_n 2 dX12_common_6 rfl rfl ?_
  refine r_invV (M := mX12_common) (As := [(0, v1)]) (st := []) (X := v0) (mc := 0) (ms := 0) (fc := 0) (fs := 0) h ok_X12_places cls12 im_X12_places se_X12_places ml_RX12_106 dX12_common_7 rfl h1 h2 (Nat.le_of_ble_eq_true rfl) rfl ?_
  rintro r K1 H3 ⟨rfl, x4, rfl, h⟩ -
  show Fr mX12_common (d + 1) 0 0 none 10 [(3, (0, (H (v0 : Int).toNat 2))), (0, (2, v0)), (1, (0, v1)), (2, (0, v2))] [(0, x4)] _ H3 _
  refine r_aload_n 1 dX12_common_10 rfl rfl ?_
  refine r_iload_n 3 dX12_common_11 rfl rfl ?_
  refine r_invV (M := mX12_common) (As := [(0, v2)]) (st := [(0, x4)]) (X := v0) (mc := 0) (ms := 0) (fc := 0) (fs := 0) h ok_X12_places cls12 im_X12_places se_X12_places ml_RX12_106 dX12_common_12 rfl h1 h2 (Nat.le_of_ble_eq_true rfl) rfl ?_
  rintro r K1 H5 ⟨rfl, x6, rfl, h⟩ -
  show Fr mX12_common (d + 1) 0 0 none 15 [(3, (0, (H (v0 : Int).toNat 2))), (0, (2, v0)), (1, (0, v1)), (2, (0, v2))] [(0, x6), (0, x4)] _ H5 _
  refine r_maxi dX12_common_15 ml_RX12_115 (Nat.le_of_ble_eq_true rfl) ?_
  refine r_iconst dX12_common_18 (by decide) (by decide) ?_
  obtain ⟨h7, h⟩ := h
  refine r_iadd dX12_common_19 h7 ?_
  refine r_istore dX12_common_20 (by decide) rfl ?_
  refine r_aload_n 2 dX12_common_22 rfl rfl ?_
  refine r_iload 0 dX12_common_23 rfl ?_
  refine r_invV (M := mX12_common) (As := [(0, ((max x4 x6) + 2))]) (st := []) (X := v0) (mc := 0) (ms := 0) (fc := 0) (fs := 0) h ok_X12_room cls12 im_X12_room se_X12_room ml_RX12_96 dX12_common_25 rfl h1 h2 (Nat.le_of_ble_eq_true rfl) rfl ?_
  rintro r K1 H8 ⟨rfl, x9, rfl, h⟩ -
  show Fr mX12_common (d + 1) 0 0 none 28 [(4, (0, ((max x4 x6) + 2))), (3, (0, (H (v0 : Int).toNat 2))), (0, (2, v0)), (1, (0, v1)), (2, (0, v2))] [(0, x9)] _ H8 _
  refine r_istore dX12_common_28 (by decide) rfl ?_
  refine r_aload_n 3 dX12_common_30 rfl rfl ?_
  refine r_iload 1 dX12_common_31 rfl ?_
  refine r_invV (M := mX12_common) (As := [(0, ((max x4 x6) + 2))]) (st := []) (X := v0) (mc := 0) (ms := 0) (fc := 0) (fs := 0) h ok_X12_room cls12 im_X12_room se_X12_room ml_RX12_96 dX12_common_33 rfl h1 h2 (Nat.le_of_ble_eq_true rfl) rfl ?_
  rintro r K1 H10 ⟨rfl, x11, rfl, h⟩ -
  show Fr mX12_common (d + 1) 0 0 none 36 [(5, (0, x9)), (4, (0, ((max x4 x6) + 2))), (3, (0, (H (v0 : Int).toNat 2))), (0, (2, v0)), (1, (0, v1)), (2, (0, v2))] [(0, x11)] _ H10 _
  refine r_istore dX12_common_36 (by decide) rfl ?_
  refine r_aload_n 4 dX12_common_38 rfl rfl ?_
  refine r_iload 2 dX12_common_39 rfl ?_
  refine r_invV (M := mX12_common) (As := [(0, ((max x4 x6) + 2))]) (st := []) (X := v0) (mc := 0) (ms := 0) (fc := 0) (fs := 0) h ok_X12_room cls12 im_X12_room se_X12_room ml_RX12_96 dX12_common_41 rfl h1 h2 (Nat.le_of_ble_eq_true rfl) rfl ?_
  rintro r K1 H12 ⟨rfl, x13, rfl, h⟩ -
  show Fr mX12_common (d + 1) 0 0 none 44 [(6, (0, x11)), (5, (0, x9)), (4, (0, ((max x4 x6) + 2))), (3, (0, (H (v0 : Int).toNat 2))), (0, (2, v0)), (1, (0, v1)), (2, (0, v2))] [(0, x13)] _ H12 _
  refine r_istore dX12_common_44 (by decide) rfl ?_
  refine r_aload_n 5 dX12_common_46 rfl rfl ?_
  refine r_iload 2 dX12_common_47 rfl ?_
  refine r_iload_n 6 dX12_common_49 rfl rfl ?_
  refine r_invV (M := mX12_common) (As := [(0, x9), (0, v1)]) (st := []) (X := v0) (mc := 0) (ms := 0) (fc := 0) (fs := 0) h ok_X12_put cls12 im_X12_put se_X12_put ml_RX12_157 dX12_common_50 rfl h1 h2 (Nat.le_of_ble_eq_true rfl) rfl ?_
  rintro r K1 H14 ⟨rfl, rfl, h⟩ -
  show Fr mX12_common (d + 1) 0 0 none 53 [(7, (0, x13)), (6, (0, x11)), (5, (0, x9)), (4, (0, ((max x4 x6) + 2))), (3, (0, (H (v0 : Int).toNat 2))), (0, (2, v0)), (1, (0, v1)), (2, (0, v2))] [] _ H14 _
  refine r_aload_n 5 dX12_common_53 rfl rfl ?_
  refine r_iload 1 dX12_common_54 rfl ?_
  refine r_iload_n 7 dX12_common_56 rfl rfl ?_
  refine r_invV (M := mX12_common) (As := [(0, x11), (0, v2)]) (st := []) (X := v0) (mc := 0) (ms := 0) (fc := 0) (fs := 0) h ok_X12_put cls12 im_X12_put se_X12_put ml_RX12_157 dX12_common_57 rfl h1 h2 (Nat.le_of_ble_eq_true rfl) rfl ?_
  rintro r K1 H16 ⟨rfl, rfl, h⟩ -
  show Fr mX12_common (d + 1) 0 0 none 60 [(7, (0, x13)), (6, (0, x11)), (5, (0, x9)), (4, (0, ((max x4 x6) + 2))), (3, (0, (H (v0 : Int).toNat 2))), (0, (2, v0)), (1, (0, v1)), (2, (0, v2))] [] _ H16 _
  refine Fr.fewer [5, 4, 2, 1, 0] rfl ?_
  exact h
set_option maxHeartbeats 4000000 in
set_option maxRecDepth 20000 in
theorem bX12_common_60 {d : Nat} {K : Shp} {H : Mem} {q : Int → Mem → Prop} {v0 v3 v5 v6 v7 : Int} (h : ((0 : Int) ≤ v0) ∧ (K[(v0 : Int).toNat]? = some (12, 51)) ∧ ((0 : Int) ≤ (H (v0 : Int).toNat 1)) ∧ ∃ n4 : Nat, (K[((H (v0 : Int).toNat 1) : Int).toNat]? = some (20, n4)) ∧ ((0 : Int) ≤ v6) ∧ ((v6 : Int) < n4) ∧ ((((H ((H (v0 : Int).toNat 1) : Int).toNat (v6 : Int).toNat) : Int) = 0 → ((0 : Int) ≤ v5) ∧ ((v5 : Int) < n4) ∧ FX12_common_157 d K H q (v0) (v3) (v5) ((H ((H (v0 : Int).toNat 1) : Int).toNat (v5 : Int).toNat)) (0)) ∧ (¬ ((H ((H (v0 : Int).toNat 1) : Int).toNat (v6 : Int).toNat) : Int) = 0 → Cv mX12_divide d [(2, v0), (0, v5), (0, v6)] K H (fun H11 => ((0 : Int) ≤ (H11 (v0 : Int).toNat 1)) ∧ ∃ n14 : Nat, (K[((H11 (v0 : Int).toNat 1) : Int).toNat]? = some (20, n14)) ∧ ((0 : Int) ≤ v7) ∧ ((v7 : Int) < n14) ∧ ∀ H18 : Mem, H18 = upA H11 ((H11 (v0 : Int).toNat 1) : Int).toNat (up1 (H11 ((H11 (v0 : Int).toNat 1) : Int).toNat) (v7 : Int).toNat (H11 (v0 : Int).toNat 6)) → FX12_common_92 d K H18 q (v0) (v3) (v5) (v6) (v7) (0))))) : FX12_common_60 d K H q (v0) (v3) (v5) (v6) (v7) := by
  unfold FX12_common_60
  refine r_aload_n 0 dX12_common_60 rfl rfl ?_
  obtain ⟨h1, h⟩ := h
  obtain ⟨h2, h⟩ := h
  refine r_getf cls12 1 dX12_common_61 (by decide) fl_RX12_7 rfl h1 h2 ?_
  refine r_iload 3 dX12_common_64 rfl ?_
  obtain ⟨h3, h⟩ := h
  obtain ⟨n4, h⟩ := h
  obtain ⟨h5, h⟩ := h
  obtain ⟨h6, h⟩ := h
  obtain ⟨h7, h⟩ := h
  refine r_iald n4 dX12_common_66 h3 h5 h6 h7 ?_
  refine r_if_eq (tgt := 145) dX12_common_67 (by decide) (fun c8 => ?_) (fun c8 => ?_)
  · replace h := h.1 c8
    refine r_aload_n 0 dX12_common_145 rfl rfl ?_
    refine r_getf cls12 1 dX12_common_146 (by decide) fl_RX12_7 rfl h1 h2 ?_
    refine r_iload 2 dX12_common_149 rfl ?_
    obtain ⟨h9, h⟩ := h
    obtain ⟨h10, h⟩ := h
    refine r_iald n4 dX12_common_151 h3 h5 h9 h10 ?_
    refine r_istore dX12_common_152 (by decide) rfl ?_
    refine r_iconst dX12_common_154 (by decide) (by decide) ?_
    refine r_istore dX12_common_155 (by decide) rfl ?_
    refine Fr.fewer [2, 3, 4, 1, 0] rfl ?_
    exact h
  · replace h := h.2 c8
    refine r_aload_n 0 dX12_common_70 rfl rfl ?_
    refine r_iload 2 dX12_common_71 rfl ?_
    refine r_iload 3 dX12_common_73 rfl ?_
    refine r_invV (M := mX12_common) (As := [(0, v5), (0, v6)]) (st := []) (X := v0) (mc := 0) (ms := 0) (fc := 0) (fs := 0) h ok_X12_divide cls12 im_X12_divide se_X12_divide ml_RX12_153 dX12_common_75 rfl h1 h2 (Nat.le_of_ble_eq_true rfl) rfl ?_
    rintro r K1 H11 ⟨rfl, rfl, h⟩ -
    show Fr mX12_common (d + 1) 0 0 none 78 [(0, (2, v0)), (3, (0, v3)), (5, (0, v5)), (6, (0, v6)), (7, (0, v7))] [] _ H11 _
    refine r_aload_n 0 dX12_common_78 rfl rfl ?_
    refine r_getf cls12 1 dX12_common_79 (by decide) fl_RX12_7 rfl h1 h2 ?_
    refine r_iload 4 dX12_common_82 rfl ?_
    refine r_aload_n 0 dX12_common_84 rfl rfl ?_
    refine r_getf cls12 6 dX12_common_85 (by decide) fl_RX12_135 rfl h1 h2 ?_
    obtain ⟨h13, h⟩ := h
    obtain ⟨n14, h⟩ := h
    obtain ⟨h15, h⟩ := h
    obtain ⟨h16, h⟩ := h
    obtain ⟨h17, h⟩ := h
    refine r_iast n14 dX12_common_88 h13 h15 h16 h17 ?_
    replace h := h _ rfl
    generalize upA H11 ((H11 (v0 : Int).toNat 1) : Int).toNat (up1 (H11 ((H11 (v0 : Int).toNat 1) : Int).toNat) (v7 : Int).toNat (H11 (v0 : Int).toNat 6)) = H18 at h ⊢
    refine r_iconst dX12_common_89 (by decide) (by decide) ?_
    refine r_istore dX12_common_90 (by decide) rfl ?_
    refine Fr.fewer [1, 2, 3, 4, 5, 0] rfl ?_
    exact h
set_option maxHeartbeats 4000000 in
set_option maxRecDepth 20000 in
theorem bX12_common_157 {d : Nat} {K : Shp} {H : Mem} {q : Int → Mem → Prop} {v0 v3 v5 v8 v9 : Int} (h : ((¬ (v9 : Int) ≤ v8 → (inI (v3 + v8)) ∧ (inI ((v3 + v8) + 1)) ∧ ((0 : Int) ≤ v0) ∧ (K[(v0 : Int).toNat]? = some (12, 51)) ∧ ∀ H6 : Mem, H6 = upA H (v0 : Int).toNat (up1 (H (v0 : Int).toNat) 2 ((v3 + v8) + 1)) → q v3 H6) ∧ ((v9 : Int) ≤ v8 → ((0 : Int) ≤ v0) ∧ (K[(v0 : Int).toNat]? = some (12, 51)) ∧ (inI (v3 + v9)) ∧ (inI (v5 + v9)) ∧ ((0 : Int) ≤ (H (v0 : Int).toNat 1)) ∧ ∃ n12 : Nat, (K[((H (v0 : Int).toNat 1) : Int).toNat]? = some (20, n12)) ∧ ((0 : Int) ≤ (v5 + v9)) ∧ (((v5 + v9) : Int) < n12) ∧ ((0 : Int) ≤ (v3 + v9)) ∧ (((v3 + v9) : Int) < n12) ∧ ∀ H18 : Mem, H18 = upA H ((H (v0 : Int).toNat 1) : Int).toNat (up1 (H ((H (v0 : Int).toNat 1) : Int).toNat) ((v3 + v9) : Int).toNat (H ((H (v0 : Int).toNat 1) : Int).toNat ((v5 + v9) : Int).toNat)) → (inI (v9 + 1)) ∧ FX12_common_157 d K H18 q (v0) (v3) (v5) (v8) ((v9 + 1))))) : FX12_common_157 d K H q (v0) (v3) (v5) (v8) (v9) := by
  unfold FX12_common_157
  refine r_iload 4 dX12_common_157 rfl ?_
  refine r_iload 3 dX12_common_159 rfl ?_
  refine r_icmp_gt (tgt := 189) dX12_common_161 (by decide) (fun c1 => ?_) (fun c1 => ?_)
  · replace h := h.1 c1
    refine r_aload_n 0 dX12_common_189 rfl rfl ?_
    refine r_iload_n 1 dX12_common_190 rfl rfl ?_
    refine r_iload 3 dX12_common_191 rfl ?_
    obtain ⟨h2, h⟩ := h
    refine r_iadd dX12_common_193 h2 ?_
    refine r_iconst dX12_common_194 (by decide) (by decide) ?_
    obtain ⟨h3, h⟩ := h
    refine r_iadd dX12_common_195 h3 ?_
    obtain ⟨h4, h⟩ := h
    obtain ⟨h5, h⟩ := h
    refine r_putf cls12 2 dX12_common_196 (by decide) rfl fl_RX12_93 rfl h4 h5 (fun o => o) ?_
    replace h := h _ rfl
    generalize upA H (v0 : Int).toNat (up1 (H (v0 : Int).toNat) 2 ((v3 + v8) + 1)) = H6 at h ⊢
    refine r_iload_n 1 dX12_common_199 rfl rfl ?_
    exact r_iret dX12_common_200 rfl ⟨rfl, _, rfl, h⟩
  · replace h := h.2 c1
    refine r_aload_n 0 dX12_common_164 rfl rfl ?_
    obtain ⟨h7, h⟩ := h
    obtain ⟨h8, h⟩ := h
    refine r_getf cls12 1 dX12_common_165 (by decide) fl_RX12_7 rfl h7 h8 ?_
    refine r_iload_n 1 dX12_common_168 rfl rfl ?_
    refine r_iload 4 dX12_common_169 rfl ?_
    obtain ⟨h9, h⟩ := h
    refine r_iadd dX12_common_171 h9 ?_
    refine r_aload_n 0 dX12_common_172 rfl rfl ?_
    refine r_getf cls12 1 dX12_common_173 (by decide) fl_RX12_7 rfl h7 h8 ?_
    refine r_iload 2 dX12_common_176 rfl ?_
    refine r_iload 4 dX12_common_178 rfl ?_
    obtain ⟨h10, h⟩ := h
    refine r_iadd dX12_common_180 h10 ?_
    obtain ⟨h11, h⟩ := h
    obtain ⟨n12, h⟩ := h
    obtain ⟨h13, h⟩ := h
    obtain ⟨h14, h⟩ := h
    obtain ⟨h15, h⟩ := h
    refine r_iald n12 dX12_common_181 h11 h13 h14 h15 ?_
    obtain ⟨h16, h⟩ := h
    obtain ⟨h17, h⟩ := h
    refine r_iast n12 dX12_common_182 h11 h13 h16 h17 ?_
    replace h := h _ rfl
    generalize upA H ((H (v0 : Int).toNat 1) : Int).toNat (up1 (H ((H (v0 : Int).toNat 1) : Int).toNat) ((v3 + v9) : Int).toNat (H ((H (v0 : Int).toNat 1) : Int).toNat ((v5 + v9) : Int).toNat)) = H18 at h ⊢
    obtain ⟨h19, h⟩ := h
    refine r_iinc 4 dX12_common_183 (by decide) rfl h19 rfl ?_
    refine r_goto (tgt := 157) dX12_common_186 (by decide) ?_
    refine Fr.fewer [1, 2, 3, 4, 0] rfl ?_
    exact h
set_option maxHeartbeats 4000000 in
set_option maxRecDepth 20000 in
theorem bX12_common_92 {d : Nat} {K : Shp} {H : Mem} {q : Int → Mem → Prop} {v0 v3 v5 v6 v7 v8 : Int} (h : ((0 : Int) ≤ v0) ∧ (K[(v0 : Int).toNat]? = some (12, 51)) ∧ ((¬ (v8 : Int) < (H (v0 : Int).toNat 6) → FX12_common_60 d K H q (v0) (v3) (v6) (v7) (v5)) ∧ ((v8 : Int) < (H (v0 : Int).toNat 6) → (inI (v7 + 1)) ∧ (inI ((v7 + 1) + v8)) ∧ ((0 : Int) ≤ (H (v0 : Int).toNat 3)) ∧ ∃ n7 : Nat, (K[((H (v0 : Int).toNat 3) : Int).toNat]? = some (20, n7)) ∧ ((0 : Int) ≤ v8) ∧ ((v8 : Int) < n7) ∧ ((0 : Int) ≤ (H (v0 : Int).toNat 1)) ∧ ∃ n12 : Nat, (K[((H (v0 : Int).toNat 1) : Int).toNat]? = some (20, n12)) ∧ ((0 : Int) ≤ ((v7 + 1) + v8)) ∧ ((((v7 + 1) + v8) : Int) < n12) ∧ ∀ H16 : Mem, H16 = upA H ((H (v0 : Int).toNat 1) : Int).toNat (up1 (H ((H (v0 : Int).toNat 1) : Int).toNat) (((v7 + 1) + v8) : Int).toNat (H ((H (v0 : Int).toNat 3) : Int).toNat (v8 : Int).toNat)) → (inI (v8 + 1)) ∧ FX12_common_92 d K H16 q (v0) (v3) (v5) (v6) (v7) ((v8 + 1))))) : FX12_common_92 d K H q (v0) (v3) (v5) (v6) (v7) (v8) := by
  unfold FX12_common_92
  refine r_iload 5 dX12_common_92 rfl ?_
  refine r_aload_n 0 dX12_common_94 rfl rfl ?_
  obtain ⟨h1, h⟩ := h
  obtain ⟨h2, h⟩ := h
  refine r_getf cls12 6 dX12_common_95 (by decide) fl_RX12_135 rfl h1 h2 ?_
  refine r_icmp_ge (tgt := 126) dX12_common_98 (by decide) (fun c3 => ?_) (fun c3 => ?_)
  · replace h := h.1 c3
    refine r_iload 2 dX12_common_126 rfl ?_
    refine r_istore dX12_common_128 (by decide) rfl ?_
    refine r_iload 4 dX12_common_130 rfl ?_
    refine r_istore dX12_common_132 (by decide) rfl ?_
    refine r_iload 5 dX12_common_134 rfl ?_
    refine r_istore dX12_common_136 (by decide) rfl ?_
    refine r_iload 2 dX12_common_138 rfl ?_
    refine r_istore dX12_common_140 (by decide) rfl ?_
    refine r_goto (tgt := 60) dX12_common_142 (by decide) ?_
    refine Fr.fewer [4, 5, 2, 1, 0] rfl ?_
    exact h
  · replace h := h.2 c3
    refine r_aload_n 0 dX12_common_101 rfl rfl ?_
    refine r_getf cls12 1 dX12_common_102 (by decide) fl_RX12_7 rfl h1 h2 ?_
    refine r_iload 4 dX12_common_105 rfl ?_
    refine r_iconst dX12_common_107 (by decide) (by decide) ?_
    obtain ⟨h4, h⟩ := h
    refine r_iadd dX12_common_108 h4 ?_
    refine r_iload 5 dX12_common_109 rfl ?_
    obtain ⟨h5, h⟩ := h
    refine r_iadd dX12_common_111 h5 ?_
    refine r_aload_n 0 dX12_common_112 rfl rfl ?_
    refine r_getf cls12 3 dX12_common_113 (by decide) fl_RX12_13 rfl h1 h2 ?_
    refine r_iload 5 dX12_common_116 rfl ?_
    obtain ⟨h6, h⟩ := h
    obtain ⟨n7, h⟩ := h
    obtain ⟨h8, h⟩ := h
    obtain ⟨h9, h⟩ := h
    obtain ⟨h10, h⟩ := h
    refine r_iald n7 dX12_common_118 h6 h8 h9 h10 ?_
    obtain ⟨h11, h⟩ := h
    obtain ⟨n12, h⟩ := h
    obtain ⟨h13, h⟩ := h
    obtain ⟨h14, h⟩ := h
    obtain ⟨h15, h⟩ := h
    refine r_iast n12 dX12_common_119 h11 h13 h14 h15 ?_
    replace h := h _ rfl
    generalize upA H ((H (v0 : Int).toNat 1) : Int).toNat (up1 (H ((H (v0 : Int).toNat 1) : Int).toNat) (((v7 + 1) + v8) : Int).toNat (H ((H (v0 : Int).toNat 3) : Int).toNat (v8 : Int).toNat)) = H16 at h ⊢
    obtain ⟨h17, h⟩ := h
    refine r_iinc 5 dX12_common_120 (by decide) rfl h17 rfl ?_
    refine r_goto (tgt := 92) dX12_common_123 (by decide) ?_
    refine Fr.fewer [1, 2, 3, 4, 5, 0] rfl ?_
    exact h
set_option maxHeartbeats 4000000 in
set_option maxRecDepth 20000 in
theorem eX12_common {d : Nat} {K : Shp} {H : Mem} {q : Int → Mem → Prop} {v0 v1 v2 : Int} (h : inI v1 → inI v2 → Rng K H → FX12_common_0 d K H q v0 v1 v2) : Ci mX12_common (d + 1) [(2, v0), (0, v1), (0, v2)] K H q := Call.of rfl (Nat.le_of_ble_eq_true rfl) (fun o r => h (o (0, v1) (by simp)) (o (0, v2) (by simp)) r)
def FX12_put_0 (d : Nat) (K : Shp) (H : Mem) (q : Mem → Prop) (v0 : Int) (v1 : Int) (v2 : Int) : Prop := Fr mX12_put (d + 1) 0 0 none 0 [(0, (2, v0)), (1, (0, v1)), (2, (0, v2))] [] K H (qv K q)
def FX12_put_16 (d : Nat) (K : Shp) (H : Mem) (q : Mem → Prop) (v0 : Int) (v1 : Int) (v2 : Int) (v3 : Int) (v4 : Int) : Prop := Fr mX12_put (d + 1) 0 0 none 16 [(0, (2, v0)), (1, (0, v1)), (2, (0, v2)), (3, (0, v3)), (4, (0, v4))] [] K H (qv K q)
set_option maxHeartbeats 4000000 in
set_option maxRecDepth 20000 in
theorem bX12_put_0 {d : Nat} {K : Shp} {H : Mem} {q : Mem → Prop} {v0 v1 v2 : Int} (h : ((0 : Int) ≤ v0) ∧ (K[(v0 : Int).toNat]? = some (12, 51)) ∧ Ci mX12_places d [(2, v0), (0, v2)] K H (fun x4 H3 => ((0 : Int) ≤ (H3 (v0 : Int).toNat 1)) ∧ ∃ n6 : Nat, (K[((H3 (v0 : Int).toNat 1) : Int).toNat]? = some (20, n6)) ∧ ((0 : Int) ≤ v1) ∧ ((v1 : Int) < n6) ∧ ∀ H10 : Mem, H10 = upA H3 ((H3 (v0 : Int).toNat 1) : Int).toNat (up1 (H3 ((H3 (v0 : Int).toNat 1) : Int).toNat) (v1 : Int).toNat x4) → FX12_put_16 d K H10 q (v0) (v1) (v2) (x4) (1))) : FX12_put_0 d K H q (v0) (v1) (v2) := by
  unfold FX12_put_0
  refine r_aload_n 0 dX12_put_0 rfl rfl ?_
  refine r_iload_n 2 dX12_put_1 rfl rfl ?_
  obtain ⟨h1, h⟩ := h
  obtain ⟨h2, h⟩ := h
  refine r_invV (M := mX12_put) (As := [(0, v2)]) (st := []) (X := v0) (mc := 0) (ms := 0) (fc := 0) (fs := 0) h ok_X12_places cls12 im_X12_places se_X12_places ml_RX12_106 dX12_put_2 rfl h1 h2 (Nat.le_of_ble_eq_true rfl) rfl ?_
  rintro r K1 H3 ⟨rfl, x4, rfl, h⟩ -
  show Fr mX12_put (d + 1) 0 0 none 5 [(0, (2, v0)), (1, (0, v1)), (2, (0, v2))] [(0, x4)] _ H3 _
  refine r_istore_n dX12_put_5 rfl (by decide) rfl ?_
  refine r_aload_n 1 dX12_put_6 rfl rfl ?_
  refine r_getf cls12 1 dX12_put_7 (by decide) fl_RX12_7 rfl h1 h2 ?_
  refine r_iload_n 2 dX12_put_10 rfl rfl ?_
  refine r_iload_n 0 dX12_put_11 rfl rfl ?_
  obtain ⟨h5, h⟩ := h
  obtain ⟨n6, h⟩ := h
  obtain ⟨h7, h⟩ := h
  obtain ⟨h8, h⟩ := h
  obtain ⟨h9, h⟩ := h
  refine r_iast n6 dX12_put_12 h5 h7 h8 h9 ?_
  replace h := h _ rfl
  generalize upA H3 ((H3 (v0 : Int).toNat 1) : Int).toNat (up1 (H3 ((H3 (v0 : Int).toNat 1) : Int).toNat) (v1 : Int).toNat x4) = H10 at h ⊢
  refine r_iconst dX12_put_13 (by decide) (by decide) ?_
  refine r_istore dX12_put_14 (by decide) rfl ?_
  refine Fr.fewer [2, 3, 4, 1, 0] rfl ?_
  exact h
set_option maxHeartbeats 4000000 in
set_option maxRecDepth 20000 in
theorem bX12_put_16 {d : Nat} {K : Shp} {H : Mem} {q : Mem → Prop} {v0 v1 v2 v3 v4 : Int} (h : ((¬ (v4 : Int) ≤ v3 → q H) ∧ ((v4 : Int) ≤ v3 → ((0 : Int) ≤ v0) ∧ (K[(v0 : Int).toNat]? = some (12, 51)) ∧ (inI (v1 + v4)) ∧ (inI (v2 + v4)) ∧ ((0 : Int) ≤ (H (v0 : Int).toNat 1)) ∧ ∃ n7 : Nat, (K[((H (v0 : Int).toNat 1) : Int).toNat]? = some (20, n7)) ∧ ((0 : Int) ≤ (v2 + v4)) ∧ (((v2 + v4) : Int) < n7) ∧ ((0 : Int) ≤ (v1 + v4)) ∧ (((v1 + v4) : Int) < n7) ∧ ∀ H13 : Mem, H13 = upA H ((H (v0 : Int).toNat 1) : Int).toNat (up1 (H ((H (v0 : Int).toNat 1) : Int).toNat) ((v1 + v4) : Int).toNat (H ((H (v0 : Int).toNat 1) : Int).toNat ((v2 + v4) : Int).toNat)) → (inI (v4 + 1)) ∧ FX12_put_16 d K H13 q (v0) (v1) (v2) (v3) ((v4 + 1))))) : FX12_put_16 d K H q (v0) (v1) (v2) (v3) (v4) := by
  unfold FX12_put_16
  refine r_iload 4 dX12_put_16 rfl ?_
  refine r_iload_n 3 dX12_put_18 rfl rfl ?_
  refine r_icmp_gt (tgt := 46) dX12_put_19 (by decide) (fun c1 => ?_) (fun c1 => ?_)
  · replace h := h.1 c1
    exact r_vret dX12_put_46 rfl ⟨rfl, rfl, h⟩
  · replace h := h.2 c1
    refine r_aload_n 0 dX12_put_22 rfl rfl ?_
    obtain ⟨h2, h⟩ := h
    obtain ⟨h3, h⟩ := h
    refine r_getf cls12 1 dX12_put_23 (by decide) fl_RX12_7 rfl h2 h3 ?_
    refine r_iload_n 1 dX12_put_26 rfl rfl ?_
    refine r_iload 4 dX12_put_27 rfl ?_
    obtain ⟨h4, h⟩ := h
    refine r_iadd dX12_put_29 h4 ?_
    refine r_aload_n 0 dX12_put_30 rfl rfl ?_
    refine r_getf cls12 1 dX12_put_31 (by decide) fl_RX12_7 rfl h2 h3 ?_
    refine r_iload_n 2 dX12_put_34 rfl rfl ?_
    refine r_iload 4 dX12_put_35 rfl ?_
    obtain ⟨h5, h⟩ := h
    refine r_iadd dX12_put_37 h5 ?_
    obtain ⟨h6, h⟩ := h
    obtain ⟨n7, h⟩ := h
    obtain ⟨h8, h⟩ := h
    obtain ⟨h9, h⟩ := h
    obtain ⟨h10, h⟩ := h
    refine r_iald n7 dX12_put_38 h6 h8 h9 h10 ?_
    obtain ⟨h11, h⟩ := h
    obtain ⟨h12, h⟩ := h
    refine r_iast n7 dX12_put_39 h6 h8 h11 h12 ?_
    replace h := h _ rfl
    generalize upA H ((H (v0 : Int).toNat 1) : Int).toNat (up1 (H ((H (v0 : Int).toNat 1) : Int).toNat) ((v1 + v4) : Int).toNat (H ((H (v0 : Int).toNat 1) : Int).toNat ((v2 + v4) : Int).toNat)) = H13 at h ⊢
    obtain ⟨h14, h⟩ := h
    refine r_iinc 4 dX12_put_40 (by decide) rfl h14 rfl ?_
    refine r_goto (tgt := 16) dX12_put_43 (by decide) ?_
    refine Fr.fewer [1, 2, 3, 4, 0] rfl ?_
    exact h
set_option maxHeartbeats 4000000 in
set_option maxRecDepth 20000 in
theorem eX12_put {d : Nat} {K : Shp} {H : Mem} {q : Mem → Prop} {v0 v1 v2 : Int} (h : inI v1 → inI v2 → Rng K H → FX12_put_0 d K H q v0 v1 v2) : Cv mX12_put (d + 1) [(2, v0), (0, v1), (0, v2)] K H q := Call.of rfl (Nat.le_of_ble_eq_true rfl) (fun o r => h (o (0, v1) (by simp)) (o (0, v2) (by simp)) r)
def FX12_out_0 (d : Nat) (K : Shp) (H : Mem) (q : Int → Mem → Prop) (v0 : Int) (v1 : Int) : Prop := Fr mX12_out d 0 0 none 0 [(0, (2, v0)), (1, (0, v1))] [] K H (qi K q)
set_option maxHeartbeats 4000000 in
set_option maxRecDepth 20000 in
theorem bX12_out_0 {d : Nat} {K : Shp} {H : Mem} {q : Int → Mem → Prop} {v0 v1 : Int} (h : (((v1 : Int) < 0 → q (-1) H) ∧ (¬ (v1 : Int) < 0 → ((0 : Int) ≤ v0) ∧ (K[(v0 : Int).toNat]? = some (12, 51)) ∧ ((¬ (v1 : Int) < (H (v0 : Int).toNat 9) → q (-1) H) ∧ ((v1 : Int) < (H (v0 : Int).toNat 9) → ((0 : Int) ≤ (H (v0 : Int).toNat 8)) ∧ ∃ n6 : Nat, (K[((H (v0 : Int).toNat 8) : Int).toNat]? = some (20, n6)) ∧ ((0 : Int) ≤ v1) ∧ ((v1 : Int) < n6) ∧ q (H ((H (v0 : Int).toNat 8) : Int).toNat (v1 : Int).toNat) H))))) : FX12_out_0 d K H q (v0) (v1) := by
  unfold FX12_out_0
  refine r_iload_n 1 dX12_out_0 rfl rfl ?_
  refine r_if_lt (tgt := 21) dX12_out_1 (by decide) (fun c1 => ?_) (fun c1 => ?_)
  · replace h := h.1 c1
    refine r_iconst dX12_out_21 (by decide) (by decide) ?_
    exact r_iret dX12_out_22 rfl ⟨rfl, _, rfl, h⟩
  · replace h := h.2 c1
    refine r_iload_n 1 dX12_out_4 rfl rfl ?_
    refine r_aload_n 0 dX12_out_5 rfl rfl ?_
    obtain ⟨h2, h⟩ := h
    obtain ⟨h3, h⟩ := h
    refine r_getf cls12 9 dX12_out_6 (by decide) fl_RX12_160 rfl h2 h3 ?_
    refine r_icmp_ge (tgt := 21) dX12_out_9 (by decide) (fun c4 => ?_) (fun c4 => ?_)
    · replace h := h.1 c4
      refine r_iconst dX12_out_21 (by decide) (by decide) ?_
      exact r_iret dX12_out_22 rfl ⟨rfl, _, rfl, h⟩
    · replace h := h.2 c4
      refine r_aload_n 0 dX12_out_12 rfl rfl ?_
      refine r_getf cls12 8 dX12_out_13 (by decide) fl_RX12_22 rfl h2 h3 ?_
      refine r_iload_n 1 dX12_out_16 rfl rfl ?_
      obtain ⟨h5, h⟩ := h
      obtain ⟨n6, h⟩ := h
      obtain ⟨h7, h⟩ := h
      obtain ⟨h8, h⟩ := h
      obtain ⟨h9, h⟩ := h
      refine r_iald n6 dX12_out_17 h5 h7 h8 h9 ?_
      refine r_goto (tgt := 22) dX12_out_18 (by decide) ?_
      exact r_iret dX12_out_22 rfl ⟨rfl, _, rfl, h⟩
set_option maxHeartbeats 4000000 in
set_option maxRecDepth 20000 in
theorem eX12_out {d : Nat} {K : Shp} {H : Mem} {q : Int → Mem → Prop} {v0 v1 : Int} (h : inI v1 → Rng K H → FX12_out_0 d K H q v0 v1) : Ci mX12_out d [(2, v0), (0, v1)] K H q := Call.of rfl (Nat.le_of_ble_eq_true rfl) (fun o r => h (o (0, v1) (by simp)) r)
def FX12_tells0_0 (d : Nat) (K : Shp) (H : Mem) (q : Mem → Prop) (v0 : Int) (v1 : Int) : Prop := Fr mX12_tells0 d 0 0 none 0 [(0, (2, v0)), (1, (0, v1))] [] K H (qv K q)
set_option maxHeartbeats 4000000 in
set_option maxRecDepth 20000 in
theorem bX12_tells0_0 {d : Nat} {K : Shp} {H : Mem} {q : Mem → Prop} {v0 v1 : Int} (h : ((0 : Int) ≤ v0) ∧ (K[(v0 : Int).toNat]? = some (12, 51)) ∧ ((0 : Int) ≤ (H (v0 : Int).toNat 8)) ∧ ∃ n4 : Nat, (K[((H (v0 : Int).toNat 8) : Int).toNat]? = some (20, n4)) ∧ ((0 : Int) ≤ (H (v0 : Int).toNat 9)) ∧ (((H (v0 : Int).toNat 9) : Int) < n4) ∧ ∀ H8 : Mem, H8 = upA H ((H (v0 : Int).toNat 8) : Int).toNat (up1 (H ((H (v0 : Int).toNat 8) : Int).toNat) ((H (v0 : Int).toNat 9) : Int).toNat v1) → (inI ((H8 (v0 : Int).toNat 9) + 1)) ∧ ∀ H10 : Mem, H10 = upA H8 (v0 : Int).toNat (up1 (H8 (v0 : Int).toNat) 9 ((H8 (v0 : Int).toNat 9) + 1)) → q H10) : FX12_tells0_0 d K H q (v0) (v1) := by
  unfold FX12_tells0_0
  refine r_aload_n 0 dX12_tells0_0 rfl rfl ?_
  obtain ⟨h1, h⟩ := h
  obtain ⟨h2, h⟩ := h
  refine r_getf cls12 8 dX12_tells0_1 (by decide) fl_RX12_22 rfl h1 h2 ?_
  refine r_aload_n 0 dX12_tells0_4 rfl rfl ?_
  refine r_getf cls12 9 dX12_tells0_5 (by decide) fl_RX12_160 rfl h1 h2 ?_
  refine r_iload_n 1 dX12_tells0_8 rfl rfl ?_
  obtain ⟨h3, h⟩ := h
  obtain ⟨n4, h⟩ := h
  obtain ⟨h5, h⟩ := h
  obtain ⟨h6, h⟩ := h
  obtain ⟨h7, h⟩ := h
  refine r_iast n4 dX12_tells0_9 h3 h5 h6 h7 ?_
  replace h := h _ rfl
  generalize upA H ((H (v0 : Int).toNat 8) : Int).toNat (up1 (H ((H (v0 : Int).toNat 8) : Int).toNat) ((H (v0 : Int).toNat 9) : Int).toNat v1) = H8 at h ⊢
  refine r_aload_n 0 dX12_tells0_10 rfl rfl ?_
  refine r_dup dX12_tells0_11 (show (2 : Nat) ≠ 1 by decide) ?_
  refine r_getf cls12 9 dX12_tells0_12 (by decide) fl_RX12_160 rfl h1 h2 ?_
  refine r_iconst dX12_tells0_15 (by decide) (by decide) ?_
  obtain ⟨h9, h⟩ := h
  refine r_iadd dX12_tells0_16 h9 ?_
  refine r_putf cls12 9 dX12_tells0_17 (by decide) rfl fl_RX12_160 rfl h1 h2 (fun o => o) ?_
  replace h := h _ rfl
  generalize upA H8 (v0 : Int).toNat (up1 (H8 (v0 : Int).toNat) 9 ((H8 (v0 : Int).toNat 9) + 1)) = H10 at h ⊢
  exact r_vret dX12_tells0_20 rfl ⟨rfl, rfl, h⟩
set_option maxHeartbeats 4000000 in
set_option maxRecDepth 20000 in
theorem eX12_tells0 {d : Nat} {K : Shp} {H : Mem} {q : Mem → Prop} {v0 v1 : Int} (h : inI v1 → Rng K H → FX12_tells0_0 d K H q v0 v1) : Cv mX12_tells0 d [(2, v0), (0, v1)] K H q := Call.of rfl (Nat.le_of_ble_eq_true rfl) (fun o r => h (o (0, v1) (by simp)) r)
def FX12_tellsNumber_0 (d : Nat) (K : Shp) (H : Mem) (q : Mem → Prop) (v0 : Int) (v1 : Int) : Prop := Fr mX12_tellsNumber (d + 1) 0 0 none 0 [(0, (2, v0)), (1, (0, v1))] [] K H (qv K q)
def FX12_tellsNumber_35 (d : Nat) (K : Shp) (H : Mem) (q : Mem → Prop) (v0 : Int) (v1 : Int) (v2 : Int) (v3 : Int) : Prop := Fr mX12_tellsNumber (d + 1) 0 0 none 35 [(0, (2, v0)), (1, (0, v1)), (2, (0, v2)), (3, (0, v3))] [] K H (qv K q)
def FX12_tellsNumber_75 (d : Nat) (K : Shp) (H : Mem) (q : Mem → Prop) (v0 : Int) (v2 : Int) : Prop := Fr mX12_tellsNumber (d + 1) 0 0 none 75 [(0, (2, v0)), (2, (0, v2))] [] K H (qv K q)
def FX12_tellsNumber_195 (d : Nat) (K : Shp) (H : Mem) (q : Mem → Prop) (v0 : Int) (v3 : Int) (v4 : Int) : Prop := Fr mX12_tellsNumber (d + 1) 0 0 none 195 [(0, (2, v0)), (3, (0, v3)), (4, (0, v4))] [] K H (qv K q)
def FX12_tellsNumber_92 (d : Nat) (K : Shp) (H : Mem) (q : Mem → Prop) (v0 : Int) (v2 : Int) (v3 : Int) (v5 : Int) : Prop := Fr mX12_tellsNumber (d + 1) 0 0 none 92 [(0, (2, v0)), (2, (0, v2)), (3, (1, v3)), (5, (0, v5))] [] K H (qv K q)
def FX12_tellsNumber_139 (d : Nat) (K : Shp) (H : Mem) (q : Mem → Prop) (v0 : Int) (v2 : Int) (v3 : Int) : Prop := Fr mX12_tellsNumber (d + 1) 0 0 none 139 [(0, (2, v0)), (2, (0, v2)), (3, (1, v3))] [] K H (qv K q)
set_option maxHeartbeats 4000000 in
set_option maxRecDepth 20000 in
theorem bX12_tellsNumber_0 {d : Nat} {K : Shp} {H : Mem} {q : Mem → Prop} {v0 v1 : Int} (h : ((0 : Int) ≤ v0) ∧ (K[(v0 : Int).toNat]? = some (12, 51)) ∧ Ci mX12_sign d [(2, v0), (0, v1)] K H (fun x4 H3 => ((¬ (x4 : Int) < 0 → Ci mX12_sign d [(2, v0), (0, v1)] K H3 (fun x7 H6 => ((¬ (x7 : Int) = 0 → FX12_tellsNumber_35 d K H6 q (v0) (v1) ((H6 (v0 : Int).toNat 9)) (0)) ∧ ((x7 : Int) = 0 → Cv mX12_tells0 d [(2, v0), (0, 48)] K H6 (fun H9 => FX12_tellsNumber_35 d K H9 q (v0) (v1) ((H9 (v0 : Int).toNat 9)) (0)))))) ∧ ((x4 : Int) < 0 → Cv mX12_tells0 d [(2, v0), (0, 45)] K H3 (fun H11 => Ci mX12_sign d [(2, v0), (0, v1)] K H11 (fun x14 H13 => ((¬ (x14 : Int) = 0 → FX12_tellsNumber_35 d K H13 q (v0) (v1) ((H13 (v0 : Int).toNat 9)) (0)) ∧ ((x14 : Int) = 0 → Cv mX12_tells0 d [(2, v0), (0, 48)] K H13 (fun H16 => FX12_tellsNumber_35 d K H16 q (v0) (v1) ((H16 (v0 : Int).toNat 9)) (0)))))))))) : FX12_tellsNumber_0 d K H q (v0) (v1) := by
  unfold FX12_tellsNumber_0
  refine r_aload_n 0 dX12_tellsNumber_0 rfl rfl ?_
  refine r_iload_n 1 dX12_tellsNumber_1 rfl rfl ?_
  obtain ⟨h1, h⟩ := h
  obtain ⟨h2, h⟩ := h
  refine r_invV (M := mX12_tellsNumber) (As := [(0, v1)]) (st := []) (X := v0) (mc := 0) (ms := 0) (fc := 0) (fs := 0) h ok_X12_sign cls12 im_X12_sign se_X12_sign ml_RX12_112 dX12_tellsNumber_2 rfl h1 h2 (Nat.le_of_ble_eq_true rfl) rfl ?_
  rintro r K1 H3 ⟨rfl, x4, rfl, h⟩ -
  show Fr mX12_tellsNumber (d + 1) 0 0 none 5 [(0, (2, v0)), (1, (0, v1))] [(0, x4)] _ H3 _
  refine r_if_ge (tgt := 14) dX12_tellsNumber_5 (by decide) (fun c5 => ?_) (fun c5 => ?_)
  · replace h := h.1 c5
    refine r_aload_n 0 dX12_tellsNumber_14 rfl rfl ?_
    refine r_iload_n 1 dX12_tellsNumber_15 rfl rfl ?_
    refine r_invV (M := mX12_tellsNumber) (As := [(0, v1)]) (st := []) (X := v0) (mc := 0) (ms := 0) (fc := 0) (fs := 0) h ok_X12_sign cls12 im_X12_sign se_X12_sign ml_RX12_112 dX12_tellsNumber_16 rfl h1 h2 (Nat.le_of_ble_eq_true rfl) rfl ?_
    rintro r K1 H6 ⟨rfl, x7, rfl, h⟩ -
    show Fr mX12_tellsNumber (d + 1) 0 0 none 19 [(0, (2, v0)), (1, (0, v1))] [(0, x7)] _ H6 _
    refine r_if_ne (tgt := 28) dX12_tellsNumber_19 (by decide) (fun c8 => ?_) (fun c8 => ?_)
    · replace h := h.1 c8
      refine r_aload_n 0 dX12_tellsNumber_28 rfl rfl ?_
      refine r_getf cls12 9 dX12_tellsNumber_29 (by decide) fl_RX12_160 rfl h1 h2 ?_
      refine r_istore_n dX12_tellsNumber_32 rfl (by decide) rfl ?_
      refine r_iconst dX12_tellsNumber_33 (by decide) (by decide) ?_
      refine r_istore_n dX12_tellsNumber_34 rfl (by decide) rfl ?_
      refine Fr.fewer [2, 3, 1, 0] rfl ?_
      exact h
    · replace h := h.2 c8
      refine r_aload_n 0 dX12_tellsNumber_22 rfl rfl ?_
      refine r_bipush dX12_tellsNumber_23 (by decide) (by decide) ?_
      refine r_invV (M := mX12_tellsNumber) (As := [(0, 48)]) (st := []) (X := v0) (mc := 0) (ms := 0) (fc := 0) (fs := 0) h ok_X12_tells0 cls12 im_X12_tells0 se_X12_tells0 ml_RX12_163 dX12_tellsNumber_25 rfl h1 h2 (Nat.le_of_ble_eq_true rfl) rfl ?_
      rintro r K1 H9 ⟨rfl, rfl, h⟩ -
      show Fr mX12_tellsNumber (d + 1) 0 0 none 28 [(0, (2, v0)), (1, (0, v1))] [] _ H9 _
      refine r_aload_n 0 dX12_tellsNumber_28 rfl rfl ?_
      refine r_getf cls12 9 dX12_tellsNumber_29 (by decide) fl_RX12_160 rfl h1 h2 ?_
      refine r_istore_n dX12_tellsNumber_32 rfl (by decide) rfl ?_
      refine r_iconst dX12_tellsNumber_33 (by decide) (by decide) ?_
      refine r_istore_n dX12_tellsNumber_34 rfl (by decide) rfl ?_
      refine Fr.fewer [2, 3, 1, 0] rfl ?_
      exact h
  · replace h := h.2 c5
    refine r_aload_n 0 dX12_tellsNumber_8 rfl rfl ?_
    refine r_bipush dX12_tellsNumber_9 (by decide) (by decide) ?_
    refine r_invV (M := mX12_tellsNumber) (As := [(0, 45)]) (st := []) (X := v0) (mc := 0) (ms := 0) (fc := 0) (fs := 0) h ok_X12_tells0 cls12 im_X12_tells0 se_X12_tells0 ml_RX12_163 dX12_tellsNumber_11 rfl h1 h2 (Nat.le_of_ble_eq_true rfl) rfl ?_
    rintro r K1 H11 ⟨rfl, rfl, h⟩ -
    show Fr mX12_tellsNumber (d + 1) 0 0 none 14 [(0, (2, v0)), (1, (0, v1))] [] _ H11 _
    refine r_aload_n 0 dX12_tellsNumber_14 rfl rfl ?_
    refine r_iload_n 1 dX12_tellsNumber_15 rfl rfl ?_
    refine r_invV (M := mX12_tellsNumber) (As := [(0, v1)]) (st := []) (X := v0) (mc := 0) (ms := 0) (fc := 0) (fs := 0) h ok_X12_sign cls12 im_X12_sign se_X12_sign ml_RX12_112 dX12_tellsNumber_16 rfl h1 h2 (Nat.le_of_ble_eq_true rfl) rfl ?_
    rintro r K1 H13 ⟨rfl, x14, rfl, h⟩ -
    show Fr mX12_tellsNumber (d + 1) 0 0 none 19 [(0, (2, v0)), (1, (0, v1))] [(0, x14)] _ H13 _
    refine r_if_ne (tgt := 28) dX12_tellsNumber_19 (by decide) (fun c15 => ?_) (fun c15 => ?_)
    · replace h := h.1 c15
      refine r_aload_n 0 dX12_tellsNumber_28 rfl rfl ?_
      refine r_getf cls12 9 dX12_tellsNumber_29 (by decide) fl_RX12_160 rfl h1 h2 ?_
      refine r_istore_n dX12_tellsNumber_32 rfl (by decide) rfl ?_
      refine r_iconst dX12_tellsNumber_33 (by decide) (by decide) ?_
      refine r_istore_n dX12_tellsNumber_34 rfl (by decide) rfl ?_
      refine Fr.fewer [2, 3, 1, 0] rfl ?_
      exact h
    · replace h := h.2 c15
      refine r_aload_n 0 dX12_tellsNumber_22 rfl rfl ?_
      refine r_bipush dX12_tellsNumber_23 (by decide) (by decide) ?_
      refine r_invV (M := mX12_tellsNumber) (As := [(0, 48)]) (st := []) (X := v0) (mc := 0) (ms := 0) (fc := 0) (fs := 0) h ok_X12_tells0 cls12 im_X12_tells0 se_X12_tells0 ml_RX12_163 dX12_tellsNumber_25 rfl h1 h2 (Nat.le_of_ble_eq_true rfl) rfl ?_
      rintro r K1 H16 ⟨rfl, rfl, h⟩ -
      show Fr mX12_tellsNumber (d + 1) 0 0 none 28 [(0, (2, v0)), (1, (0, v1))] [] _ H16 _
      refine r_aload_n 0 dX12_tellsNumber_28 rfl rfl ?_
      refine r_getf cls12 9 dX12_tellsNumber_29 (by decide) fl_RX12_160 rfl h1 h2 ?_
      refine r_istore_n dX12_tellsNumber_32 rfl (by decide) rfl ?_
      refine r_iconst dX12_tellsNumber_33 (by decide) (by decide) ?_
      refine r_istore_n dX12_tellsNumber_34 rfl (by decide) rfl ?_
      refine Fr.fewer [2, 3, 1, 0] rfl ?_
      exact h
set_option maxHeartbeats 4000000 in
set_option maxRecDepth 20000 in
theorem bX12_tellsNumber_35 {d : Nat} {K : Shp} {H : Mem} {q : Mem → Prop} {v0 v1 v2 v3 : Int} (h : ((0 : Int) ≤ v0) ∧ (K[(v0 : Int).toNat]? = some (12, 51)) ∧ Ci mX12_places d [(2, v0), (0, v1)] K H (fun x4 H3 => ((¬ (v3 : Int) < x4 → Ci mX12_places d [(2, v0), (0, v1)] K H3 (fun x7 H6 => ∀ H8 : Mem, H8 = upA H6 (v0 : Int).toNat (up1 (H6 (v0 : Int).toNat) 6 x7) → FX12_tellsNumber_75 d K H8 q (v0) (v2))) ∧ ((v3 : Int) < x4 → (inI (v1 + 1)) ∧ (inI ((v1 + 1) + v3)) ∧ ((0 : Int) ≤ (H3 (v0 : Int).toNat 1)) ∧ ∃ n12 : Nat, (K[((H3 (v0 : Int).toNat 1) : Int).toNat]? = some (20, n12)) ∧ ((0 : Int) ≤ ((v1 + 1) + v3)) ∧ ((((v1 + 1) + v3) : Int) < n12) ∧ ((0 : Int) ≤ (H3 (v0 : Int).toNat 3)) ∧ ∃ n17 : Nat, (K[((H3 (v0 : Int).toNat 3) : Int).toNat]? = some (20, n17)) ∧ ((0 : Int) ≤ v3) ∧ ((v3 : Int) < n17) ∧ ∀ H21 : Mem, H21 = upA H3 ((H3 (v0 : Int).toNat 3) : Int).toNat (up1 (H3 ((H3 (v0 : Int).toNat 3) : Int).toNat) (v3 : Int).toNat (H3 ((H3 (v0 : Int).toNat 1) : Int).toNat (((v1 + 1) + v3) : Int).toNat)) → (inI (v3 + 1)) ∧ FX12_tellsNumber_35 d K H21 q (v0) (v1) (v2) ((v3 + 1)))))) : FX12_tellsNumber_35 d K H q (v0) (v1) (v2) (v3) := by
  unfold FX12_tellsNumber_35
  refine r_iload_n 3 dX12_tellsNumber_35 rfl rfl ?_
  refine r_aload_n 0 dX12_tellsNumber_36 rfl rfl ?_
  refine r_iload_n 1 dX12_tellsNumber_37 rfl rfl ?_
  obtain ⟨h1, h⟩ := h
  obtain ⟨h2, h⟩ := h
  refine r_invV (M := mX12_tellsNumber) (As := [(0, v1)]) (st := [(0, v3)]) (X := v0) (mc := 0) (ms := 0) (fc := 0) (fs := 0) h ok_X12_places cls12 im_X12_places se_X12_places ml_RX12_106 dX12_tellsNumber_38 rfl h1 h2 (Nat.le_of_ble_eq_true rfl) rfl ?_
  rintro r K1 H3 ⟨rfl, x4, rfl, h⟩ -
  show Fr mX12_tellsNumber (d + 1) 0 0 none 41 [(0, (2, v0)), (1, (0, v1)), (2, (0, v2)), (3, (0, v3))] [(0, x4), (0, v3)] _ H3 _
  refine r_icmp_ge (tgt := 66) dX12_tellsNumber_41 (by decide) (fun c5 => ?_) (fun c5 => ?_)
  · replace h := h.1 c5
    refine r_aload_n 0 dX12_tellsNumber_66 rfl rfl ?_
    refine r_aload_n 0 dX12_tellsNumber_67 rfl rfl ?_
    refine r_iload_n 1 dX12_tellsNumber_68 rfl rfl ?_
    refine r_invV (M := mX12_tellsNumber) (As := [(0, v1)]) (st := [(2, v0)]) (X := v0) (mc := 0) (ms := 0) (fc := 0) (fs := 0) h ok_X12_places cls12 im_X12_places se_X12_places ml_RX12_106 dX12_tellsNumber_69 rfl h1 h2 (Nat.le_of_ble_eq_true rfl) rfl ?_
    rintro r K1 H6 ⟨rfl, x7, rfl, h⟩ -
    show Fr mX12_tellsNumber (d + 1) 0 0 none 72 [(0, (2, v0)), (1, (0, v1)), (2, (0, v2)), (3, (0, v3))] [(0, x7), (2, v0)] _ H6 _
    refine r_putf cls12 6 dX12_tellsNumber_72 (by decide) rfl fl_RX12_135 rfl h1 h2 (fun o => o) ?_
    replace h := h _ rfl
    generalize upA H6 (v0 : Int).toNat (up1 (H6 (v0 : Int).toNat) 6 x7) = H8 at h ⊢
    refine Fr.fewer [0, 2] rfl ?_
    exact h
  · replace h := h.2 c5
    refine r_aload_n 0 dX12_tellsNumber_44 rfl rfl ?_
    refine r_getf cls12 3 dX12_tellsNumber_45 (by decide) fl_RX12_13 rfl h1 h2 ?_
    refine r_iload_n 3 dX12_tellsNumber_48 rfl rfl ?_
    refine r_aload_n 0 dX12_tellsNumber_49 rfl rfl ?_
    refine r_getf cls12 1 dX12_tellsNumber_50 (by decide) fl_RX12_7 rfl h1 h2 ?_
    refine r_iload_n 1 dX12_tellsNumber_53 rfl rfl ?_
    refine r_iconst dX12_tellsNumber_54 (by decide) (by decide) ?_
    obtain ⟨h9, h⟩ := h
    refine r_iadd dX12_tellsNumber_55 h9 ?_
    refine r_iload_n 3 dX12_tellsNumber_56 rfl rfl ?_
    obtain ⟨h10, h⟩ := h
    refine r_iadd dX12_tellsNumber_57 h10 ?_
    obtain ⟨h11, h⟩ := h
    obtain ⟨n12, h⟩ := h
    obtain ⟨h13, h⟩ := h
    obtain ⟨h14, h⟩ := h
    obtain ⟨h15, h⟩ := h
    refine r_iald n12 dX12_tellsNumber_58 h11 h13 h14 h15 ?_
    obtain ⟨h16, h⟩ := h
    obtain ⟨n17, h⟩ := h
    obtain ⟨h18, h⟩ := h
    obtain ⟨h19, h⟩ := h
    obtain ⟨h20, h⟩ := h
    refine r_iast n17 dX12_tellsNumber_59 h16 h18 h19 h20 ?_
    replace h := h _ rfl
    generalize upA H3 ((H3 (v0 : Int).toNat 3) : Int).toNat (up1 (H3 ((H3 (v0 : Int).toNat 3) : Int).toNat) (v3 : Int).toNat (H3 ((H3 (v0 : Int).toNat 1) : Int).toNat (((v1 + 1) + v3) : Int).toNat)) = H21 at h ⊢
    obtain ⟨h22, h⟩ := h
    refine r_iinc 3 dX12_tellsNumber_60 (by decide) rfl h22 rfl ?_
    refine r_goto (tgt := 35) dX12_tellsNumber_63 (by decide) ?_
    refine Fr.fewer [1, 2, 3, 0] rfl ?_
    exact h
set_option maxHeartbeats 4000000 in
set_option maxRecDepth 20000 in
theorem bX12_tellsNumber_75 {d : Nat} {K : Shp} {H : Mem} {q : Mem → Prop} {v0 v2 : Int} (h : ((0 : Int) ≤ v0) ∧ (K[(v0 : Int).toNat]? = some (12, 51)) ∧ ((((H (v0 : Int).toNat 6) : Int) ≤ 0 → (inI ((H (v0 : Int).toNat 9) - 1)) ∧ FX12_tellsNumber_195 d K H q (v0) (v2) (((H (v0 : Int).toNat 9) - 1))) ∧ (¬ ((H (v0 : Int).toNat 6) : Int) ≤ 0 → (inI ((H (v0 : Int).toNat 6) - 1)) ∧ FX12_tellsNumber_92 d K H q (v0) (v2) (0) (((H (v0 : Int).toNat 6) - 1))))) : FX12_tellsNumber_75 d K H q (v0) (v2) := by
  unfold FX12_tellsNumber_75
  refine r_aload_n 0 dX12_tellsNumber_75 rfl rfl ?_
  obtain ⟨h1, h⟩ := h
  obtain ⟨h2, h⟩ := h
  refine r_getf cls12 6 dX12_tellsNumber_76 (by decide) fl_RX12_135 rfl h1 h2 ?_
  refine r_if_le (tgt := 185) dX12_tellsNumber_79 (by decide) (fun c3 => ?_) (fun c3 => ?_)
  · replace h := h.1 c3
    refine r_iload_n 1 dX12_tellsNumber_185 rfl rfl ?_
    refine r_istore_n dX12_tellsNumber_186 rfl (by decide) rfl ?_
    refine r_aload_n 1 dX12_tellsNumber_187 rfl rfl ?_
    refine r_getf cls12 9 dX12_tellsNumber_188 (by decide) fl_RX12_160 rfl h1 h2 ?_
    refine r_iconst dX12_tellsNumber_191 (by decide) (by decide) ?_
    obtain ⟨h4, h⟩ := h
    refine r_isub dX12_tellsNumber_192 h4 ?_
    refine r_istore dX12_tellsNumber_193 (by decide) rfl ?_
    refine Fr.fewer [2, 1, 0] rfl ?_
    exact h
  · replace h := h.2 c3
    refine r_lconst0 dX12_tellsNumber_82 ?_
    refine r_lstore_n dX12_tellsNumber_83 rfl (by decide) rfl ?_
    refine r_aload_n 1 dX12_tellsNumber_84 rfl rfl ?_
    refine r_getf cls12 6 dX12_tellsNumber_85 (by decide) fl_RX12_135 rfl h1 h2 ?_
    refine r_iconst dX12_tellsNumber_88 (by decide) (by decide) ?_
    obtain ⟨h5, h⟩ := h
    refine r_isub dX12_tellsNumber_89 h5 ?_
    refine r_istore dX12_tellsNumber_90 (by decide) rfl ?_
    refine Fr.fewer [2, 3, 1, 0] rfl ?_
    exact h
set_option maxHeartbeats 4000000 in
set_option maxRecDepth 20000 in
theorem bX12_tellsNumber_195 {d : Nat} {K : Shp} {H : Mem} {q : Mem → Prop} {v0 v3 v4 : Int} (h : ((¬ (v3 : Int) < v4 → q H) ∧ ((v3 : Int) < v4 → ((0 : Int) ≤ v0) ∧ (K[(v0 : Int).toNat]? = some (12, 51)) ∧ ((0 : Int) ≤ (H (v0 : Int).toNat 8)) ∧ ∃ n5 : Nat, (K[((H (v0 : Int).toNat 8) : Int).toNat]? = some (20, n5)) ∧ ((0 : Int) ≤ v3) ∧ ((v3 : Int) < n5) ∧ ((0 : Int) ≤ v4) ∧ ((v4 : Int) < n5) ∧ ∀ H11 : Mem, H11 = upA H ((H (v0 : Int).toNat 8) : Int).toNat (up1 (H ((H (v0 : Int).toNat 8) : Int).toNat) (v3 : Int).toNat (H ((H (v0 : Int).toNat 8) : Int).toNat (v4 : Int).toNat)) → ((0 : Int) ≤ (H11 (v0 : Int).toNat 8)) ∧ ∃ n13 : Nat, (K[((H11 (v0 : Int).toNat 8) : Int).toNat]? = some (20, n13)) ∧ ((v4 : Int) < n13) ∧ ∀ H16 : Mem, H16 = upA H11 ((H11 (v0 : Int).toNat 8) : Int).toNat (up1 (H11 ((H11 (v0 : Int).toNat 8) : Int).toNat) (v4 : Int).toNat (H ((H (v0 : Int).toNat 8) : Int).toNat (v3 : Int).toNat)) → (inI (v3 + 1)) ∧ (inI (v4 + (-1))) ∧ FX12_tellsNumber_195 d K H16 q (v0) ((v3 + 1)) ((v4 + (-1)))))) : FX12_tellsNumber_195 d K H q (v0) (v3) (v4) := by
  unfold FX12_tellsNumber_195
  refine r_iload_n 1 dX12_tellsNumber_195 rfl rfl ?_
  refine r_iload 2 dX12_tellsNumber_196 rfl ?_
  refine r_icmp_ge (tgt := 240) dX12_tellsNumber_198 (by decide) (fun c1 => ?_) (fun c1 => ?_)
  · replace h := h.1 c1
    exact r_vret dX12_tellsNumber_240 rfl ⟨rfl, rfl, h⟩
  · replace h := h.2 c1
    refine r_aload_n 0 dX12_tellsNumber_201 rfl rfl ?_
    obtain ⟨h2, h⟩ := h
    obtain ⟨h3, h⟩ := h
    refine r_getf cls12 8 dX12_tellsNumber_202 (by decide) fl_RX12_22 rfl h2 h3 ?_
    refine r_iload_n 1 dX12_tellsNumber_205 rfl rfl ?_
    obtain ⟨h4, h⟩ := h
    obtain ⟨n5, h⟩ := h
    obtain ⟨h6, h⟩ := h
    obtain ⟨h7, h⟩ := h
    obtain ⟨h8, h⟩ := h
    refine r_iald n5 dX12_tellsNumber_206 h4 h6 h7 h8 ?_
    refine r_istore dX12_tellsNumber_207 (by decide) rfl ?_
    refine r_aload_n 1 dX12_tellsNumber_209 rfl rfl ?_
    refine r_getf cls12 8 dX12_tellsNumber_210 (by decide) fl_RX12_22 rfl h2 h3 ?_
    refine r_iload_n 2 dX12_tellsNumber_213 rfl rfl ?_
    refine r_aload_n 1 dX12_tellsNumber_214 rfl rfl ?_
    refine r_getf cls12 8 dX12_tellsNumber_215 (by decide) fl_RX12_22 rfl h2 h3 ?_
    refine r_iload 3 dX12_tellsNumber_218 rfl ?_
    obtain ⟨h9, h⟩ := h
    obtain ⟨h10, h⟩ := h
    refine r_iald n5 dX12_tellsNumber_220 h4 h6 h9 h10 ?_
    refine r_iast n5 dX12_tellsNumber_221 h4 h6 h7 h8 ?_
    replace h := h _ rfl
    generalize upA H ((H (v0 : Int).toNat 8) : Int).toNat (up1 (H ((H (v0 : Int).toNat 8) : Int).toNat) (v3 : Int).toNat (H ((H (v0 : Int).toNat 8) : Int).toNat (v4 : Int).toNat)) = H11 at h ⊢
    refine r_aload_n 1 dX12_tellsNumber_222 rfl rfl ?_
    refine r_getf cls12 8 dX12_tellsNumber_223 (by decide) fl_RX12_22 rfl h2 h3 ?_
    refine r_iload 3 dX12_tellsNumber_226 rfl ?_
    refine r_iload 0 dX12_tellsNumber_228 rfl ?_
    obtain ⟨h12, h⟩ := h
    obtain ⟨n13, h⟩ := h
    obtain ⟨h14, h⟩ := h
    obtain ⟨h15, h⟩ := h
    refine r_iast n13 dX12_tellsNumber_230 h12 h14 h9 h15 ?_
    replace h := h _ rfl
    generalize upA H11 ((H11 (v0 : Int).toNat 8) : Int).toNat (up1 (H11 ((H11 (v0 : Int).toNat 8) : Int).toNat) (v4 : Int).toNat (H ((H (v0 : Int).toNat 8) : Int).toNat (v3 : Int).toNat)) = H16 at h ⊢
    obtain ⟨h17, h⟩ := h
    refine r_iinc 2 dX12_tellsNumber_231 (by decide) rfl h17 rfl ?_
    obtain ⟨h18, h⟩ := h
    refine r_iinc 3 dX12_tellsNumber_234 (by decide) rfl h18 rfl ?_
    refine r_goto (tgt := 195) dX12_tellsNumber_237 (by decide) ?_
    refine Fr.fewer [3, 1, 0] rfl ?_
    exact h
set_option maxHeartbeats 4000000 in
set_option maxRecDepth 20000 in
theorem bX12_tellsNumber_92 {d : Nat} {K : Shp} {H : Mem} {q : Mem → Prop} {v0 v2 v3 v5 : Int} (h : (((v5 : Int) < 0 → FX12_tellsNumber_139 d K H q (v0) (v2) (v3)) ∧ (¬ (v5 : Int) < 0 → (inL (v3 * 1073741824)) ∧ ((0 : Int) ≤ v0) ∧ (K[(v0 : Int).toNat]? = some (12, 51)) ∧ ((0 : Int) ≤ (H (v0 : Int).toNat 3)) ∧ ∃ n6 : Nat, (K[((H (v0 : Int).toNat 3) : Int).toNat]? = some (20, n6)) ∧ ((0 : Int) ≤ v5) ∧ ((v5 : Int) < n6) ∧ (∃ n : Nat, (0 : Int) ≤ (v3 * 1073741824) ∧ ((v3 * 1073741824) : Int) % (2 ^ n : Nat) = 0 ∧ (0 : Int) ≤ (H ((H (v0 : Int).toNat 3) : Int).toNat (v5 : Int).toNat) ∧ ((H ((H (v0 : Int).toNat 3) : Int).toNat (v5 : Int).toNat) : Int) < (2 ^ n : Nat) ∧ inL ((v3 * 1073741824) + (H ((H (v0 : Int).toNat 3) : Int).toNat (v5 : Int).toNat))) ∧ (inL (Int.tdiv ((v3 * 1073741824) + (H ((H (v0 : Int).toNat 3) : Int).toNat (v5 : Int).toNat)) 10)) ∧ (inI (Int.tdiv ((v3 * 1073741824) + (H ((H (v0 : Int).toNat 3) : Int).toNat (v5 : Int).toNat)) 10)) ∧ ∀ H13 : Mem, H13 = upA H ((H (v0 : Int).toNat 3) : Int).toNat (up1 (H ((H (v0 : Int).toNat 3) : Int).toNat) (v5 : Int).toNat (Int.tdiv ((v3 * 1073741824) + (H ((H (v0 : Int).toNat 3) : Int).toNat (v5 : Int).toNat)) 10)) → (inL (Int.tmod ((v3 * 1073741824) + (H ((H (v0 : Int).toNat 3) : Int).toNat (v5 : Int).toNat)) 10)) ∧ (inI (v5 + (-1))) ∧ FX12_tellsNumber_92 d K H13 q (v0) (v2) ((Int.tmod ((v3 * 1073741824) + (H ((H (v0 : Int).toNat 3) : Int).toNat (v5 : Int).toNat)) 10)) ((v5 + (-1)))))) : FX12_tellsNumber_92 d K H q (v0) (v2) (v3) (v5) := by
  unfold FX12_tellsNumber_92
  refine r_iload 3 dX12_tellsNumber_92 rfl ?_
  refine r_if_lt (tgt := 139) dX12_tellsNumber_94 (by decide) (fun c1 => ?_) (fun c1 => ?_)
  · replace h := h.1 c1
    refine Fr.fewer [0, 1, 2] rfl ?_
    exact h
  · replace h := h.2 c1
    refine r_lload_n 2 dX12_tellsNumber_97 rfl rfl ?_
    refine r_bipush dX12_tellsNumber_98 (by decide) (by decide) ?_
    obtain ⟨h2, h⟩ := h
    refine r_lshl30 dX12_tellsNumber_100 h2 ?_
    refine r_aload_n 0 dX12_tellsNumber_101 rfl rfl ?_
    obtain ⟨h3, h⟩ := h
    obtain ⟨h4, h⟩ := h
    refine r_getf cls12 3 dX12_tellsNumber_102 (by decide) fl_RX12_13 rfl h3 h4 ?_
    refine r_iload 3 dX12_tellsNumber_105 rfl ?_
    obtain ⟨h5, h⟩ := h
    obtain ⟨n6, h⟩ := h
    obtain ⟨h7, h⟩ := h
    obtain ⟨h8, h⟩ := h
    obtain ⟨h9, h⟩ := h
    refine r_iald n6 dX12_tellsNumber_107 h5 h7 h8 h9 ?_
    refine r_i2l dX12_tellsNumber_108 ?_
    obtain ⟨h10, h⟩ := h
    obtain ⟨nh10, h10a, h10b, h10c, h10d, h10e⟩ := h10
    refine r_lor nh10 dX12_tellsNumber_109 h10a h10b h10c h10d h10e ?_
    refine r_lstore dX12_tellsNumber_110 (by decide) rfl ?_
    refine r_aload_n 1 dX12_tellsNumber_112 rfl rfl ?_
    refine r_getf cls12 3 dX12_tellsNumber_113 (by decide) fl_RX12_13 rfl h3 h4 ?_
    refine r_iload 4 dX12_tellsNumber_116 rfl ?_
    refine r_lload 0 dX12_tellsNumber_118 rfl ?_
    refine r_ldc2 (x := 10) dX12_tellsNumber_120 kl_RX12_166 (by decide) (by decide) ?_
    obtain ⟨h11, h⟩ := h
    refine r_ldiv dX12_tellsNumber_123 (by decide) h11 ?_
    obtain ⟨h12, h⟩ := h
    refine r_l2i dX12_tellsNumber_124 h12 ?_
    refine r_iast n6 dX12_tellsNumber_125 h5 h7 h8 h9 ?_
    replace h := h _ rfl
    generalize upA H ((H (v0 : Int).toNat 3) : Int).toNat (up1 (H ((H (v0 : Int).toNat 3) : Int).toNat) (v5 : Int).toNat (Int.tdiv ((v3 * 1073741824) + (H ((H (v0 : Int).toNat 3) : Int).toNat (v5 : Int).toNat)) 10)) = H13 at h ⊢
    refine r_lload 0 dX12_tellsNumber_126 rfl ?_
    refine r_ldc2 (x := 10) dX12_tellsNumber_128 kl_RX12_166 (by decide) (by decide) ?_
    obtain ⟨h14, h⟩ := h
    refine r_lrem dX12_tellsNumber_131 (by decide) h14 ?_
    refine r_lstore_n dX12_tellsNumber_132 rfl (by decide) rfl ?_
    obtain ⟨h15, h⟩ := h
    refine r_iinc 4 dX12_tellsNumber_133 (by decide) rfl h15 rfl ?_
    refine r_goto (tgt := 92) dX12_tellsNumber_136 (by decide) ?_
    refine Fr.fewer [3, 4, 1, 0] rfl ?_
    exact h
set_option maxHeartbeats 4000000 in
set_option maxRecDepth 20000 in
theorem bX12_tellsNumber_139 {d : Nat} {K : Shp} {H : Mem} {q : Mem → Prop} {v0 v2 v3 : Int} (h : ((0 : Int) ≤ v0) ∧ (K[(v0 : Int).toNat]? = some (12, 51)) ∧ ((((H (v0 : Int).toNat 6) : Int) ≤ 0 → (inI v3) ∧ (inI (48 + v3)) ∧ Cv mX12_tells0 d [(2, v0), (0, (48 + v3))] K H (fun H6 => FX12_tellsNumber_75 d K H6 q (v0) (v2))) ∧ (¬ ((H (v0 : Int).toNat 6) : Int) ≤ 0 → (inI ((H (v0 : Int).toNat 6) - 1)) ∧ ((0 : Int) ≤ (H (v0 : Int).toNat 3)) ∧ ∃ n10 : Nat, (K[((H (v0 : Int).toNat 3) : Int).toNat]? = some (20, n10)) ∧ ((0 : Int) ≤ ((H (v0 : Int).toNat 6) - 1)) ∧ ((((H (v0 : Int).toNat 6) - 1) : Int) < n10) ∧ ((¬ ((H ((H (v0 : Int).toNat 3) : Int).toNat (((H (v0 : Int).toNat 6) - 1) : Int).toNat) : Int) = 0 → (inI v3) ∧ (inI (48 + v3)) ∧ Cv mX12_tells0 d [(2, v0), (0, (48 + v3))] K H (fun H17 => FX12_tellsNumber_75 d K H17 q (v0) (v2))) ∧ (((H ((H (v0 : Int).toNat 3) : Int).toNat (((H (v0 : Int).toNat 6) - 1) : Int).toNat) : Int) = 0 → ∀ H19 : Mem, H19 = upA H (v0 : Int).toNat (up1 (H (v0 : Int).toNat) 6 ((H (v0 : Int).toNat 6) - 1)) → FX12_tellsNumber_139 d K H19 q (v0) (v2) (v3)))))) : FX12_tellsNumber_139 d K H q (v0) (v2) (v3) := by
  unfold FX12_tellsNumber_139
  refine r_aload_n 0 dX12_tellsNumber_139 rfl rfl ?_
  obtain ⟨h1, h⟩ := h
  obtain ⟨h2, h⟩ := h
  refine r_getf cls12 6 dX12_tellsNumber_140 (by decide) fl_RX12_135 rfl h1 h2 ?_
  refine r_if_le (tgt := 173) dX12_tellsNumber_143 (by decide) (fun c3 => ?_) (fun c3 => ?_)
  · replace h := h.1 c3
    refine r_aload_n 0 dX12_tellsNumber_173 rfl rfl ?_
    refine r_bipush dX12_tellsNumber_174 (by decide) (by decide) ?_
    refine r_lload_n 2 dX12_tellsNumber_176 rfl rfl ?_
    obtain ⟨h4, h⟩ := h
    refine r_l2i dX12_tellsNumber_177 h4 ?_
    obtain ⟨h5, h⟩ := h
    refine r_iadd dX12_tellsNumber_178 h5 ?_
    refine r_invV (M := mX12_tellsNumber) (As := [(0, (48 + v3))]) (st := []) (X := v0) (mc := 0) (ms := 0) (fc := 0) (fs := 0) h ok_X12_tells0 cls12 im_X12_tells0 se_X12_tells0 ml_RX12_163 dX12_tellsNumber_179 rfl h1 h2 (Nat.le_of_ble_eq_true rfl) rfl ?_
    rintro r K1 H6 ⟨rfl, rfl, h⟩ -
    show Fr mX12_tellsNumber (d + 1) 0 0 none 182 [(0, (2, v0)), (2, (0, v2)), (3, (1, v3))] [] _ H6 _
    refine r_goto (tgt := 75) dX12_tellsNumber_182 (by decide) ?_
    refine Fr.fewer [0, 1] rfl ?_
    exact h
  · replace h := h.2 c3
    refine r_aload_n 0 dX12_tellsNumber_146 rfl rfl ?_
    refine r_getf cls12 3 dX12_tellsNumber_147 (by decide) fl_RX12_13 rfl h1 h2 ?_
    refine r_aload_n 0 dX12_tellsNumber_150 rfl rfl ?_
    refine r_getf cls12 6 dX12_tellsNumber_151 (by decide) fl_RX12_135 rfl h1 h2 ?_
    refine r_iconst dX12_tellsNumber_154 (by decide) (by decide) ?_
    obtain ⟨h8, h⟩ := h
    refine r_isub dX12_tellsNumber_155 h8 ?_
    obtain ⟨h9, h⟩ := h
    obtain ⟨n10, h⟩ := h
    obtain ⟨h11, h⟩ := h
    obtain ⟨h12, h⟩ := h
    obtain ⟨h13, h⟩ := h
    refine r_iald n10 dX12_tellsNumber_156 h9 h11 h12 h13 ?_
    refine r_if_ne (tgt := 173) dX12_tellsNumber_157 (by decide) (fun c14 => ?_) (fun c14 => ?_)
    · replace h := h.1 c14
      refine r_aload_n 0 dX12_tellsNumber_173 rfl rfl ?_
      refine r_bipush dX12_tellsNumber_174 (by decide) (by decide) ?_
      refine r_lload_n 2 dX12_tellsNumber_176 rfl rfl ?_
      obtain ⟨h15, h⟩ := h
      refine r_l2i dX12_tellsNumber_177 h15 ?_
      obtain ⟨h16, h⟩ := h
      refine r_iadd dX12_tellsNumber_178 h16 ?_
      refine r_invV (M := mX12_tellsNumber) (As := [(0, (48 + v3))]) (st := []) (X := v0) (mc := 0) (ms := 0) (fc := 0) (fs := 0) h ok_X12_tells0 cls12 im_X12_tells0 se_X12_tells0 ml_RX12_163 dX12_tellsNumber_179 rfl h1 h2 (Nat.le_of_ble_eq_true rfl) rfl ?_
      rintro r K1 H17 ⟨rfl, rfl, h⟩ -
      show Fr mX12_tellsNumber (d + 1) 0 0 none 182 [(0, (2, v0)), (2, (0, v2)), (3, (1, v3))] [] _ H17 _
      refine r_goto (tgt := 75) dX12_tellsNumber_182 (by decide) ?_
      refine Fr.fewer [0, 1] rfl ?_
      exact h
    · replace h := h.2 c14
      refine r_aload_n 0 dX12_tellsNumber_160 rfl rfl ?_
      refine r_dup dX12_tellsNumber_161 (show (2 : Nat) ≠ 1 by decide) ?_
      refine r_getf cls12 6 dX12_tellsNumber_162 (by decide) fl_RX12_135 rfl h1 h2 ?_
      refine r_iconst dX12_tellsNumber_165 (by decide) (by decide) ?_
      refine r_isub dX12_tellsNumber_166 h8 ?_
      refine r_putf cls12 6 dX12_tellsNumber_167 (by decide) rfl fl_RX12_135 rfl h1 h2 (fun o => o) ?_
      replace h := h _ rfl
      generalize upA H (v0 : Int).toNat (up1 (H (v0 : Int).toNat) 6 ((H (v0 : Int).toNat 6) - 1)) = H19 at h ⊢
      refine r_goto (tgt := 139) dX12_tellsNumber_170 (by decide) ?_
      refine Fr.fewer [0, 1, 2] rfl ?_
      exact h
set_option maxHeartbeats 4000000 in
set_option maxRecDepth 20000 in
theorem eX12_tellsNumber {d : Nat} {K : Shp} {H : Mem} {q : Mem → Prop} {v0 v1 : Int} (h : inI v1 → Rng K H → FX12_tellsNumber_0 d K H q v0 v1) : Cv mX12_tellsNumber (d + 1) [(2, v0), (0, v1)] K H q := Call.of rfl (Nat.le_of_ble_eq_true rfl) (fun o r => h (o (0, v1) (by simp)) r)
def FX12_tells_0 (d : Nat) (K : Shp) (H : Mem) (q : Int → Mem → Prop) (v0 : Int) (v1 : Int) (v2 : Int) : Prop := Fr mX12_tells (d + 1) 0 0 none 0 [(0, (2, v0)), (1, (0, v1)), (2, (0, v2))] [] K H (qi K q)
set_option maxHeartbeats 4000000 in
set_option maxRecDepth 20000 in
theorem bX12_tells_0 {d : Nat} {K : Shp} {H : Mem} {q : Int → Mem → Prop} {v0 v1 v2 : Int} (h : ((0 : Int) ≤ v0) ∧ (K[(v0 : Int).toNat]? = some (12, 51)) ∧ Ci mX12_common d [(2, v0), (0, v1), (0, v2)] K H (fun x4 H3 => Ci mX12_divided d [(2, v0), (0, v1), (0, x4)] K H3 (fun x6 H5 => Ci mX12_divided d [(2, v0), (0, v2), (0, x4)] K H5 (fun x8 H7 => ∀ H9 : Mem, H9 = upA H7 (v0 : Int).toNat (up1 (H7 (v0 : Int).toNat) 9 0) → Ci mX12_sign d [(2, v0), (0, x8)] K H9 (fun x11 H10 => ((¬ (x11 : Int) < 0 → Cv mX12_tellsNumber d [(2, v0), (0, x6)] K H10 (fun H13 => Cv mX12_tells0 d [(2, v0), (0, 47)] K H13 (fun H15 => Ci mX12_sign d [(2, v0), (0, x8)] K H15 (fun x18 H17 => ((¬ (x18 : Int) < 0 → Cv mX12_tellsNumber d [(2, v0), (0, x8)] K H17 (fun H20 => ∀ H22 : Mem, H22 = upA H20 (v0 : Int).toNat (up1 (H20 (v0 : Int).toNat) 0 0) → q (H22 (v0 : Int).toNat 9) H22)) ∧ ((x18 : Int) < 0 → Ci mX12_turned d [(2, v0), (0, x8)] K H17 (fun x24 H23 => Cv mX12_tellsNumber d [(2, v0), (0, x24)] K H23 (fun H25 => ∀ H27 : Mem, H27 = upA H25 (v0 : Int).toNat (up1 (H25 (v0 : Int).toNat) 0 0) → q (H27 (v0 : Int).toNat 9) H27)))))))) ∧ ((x11 : Int) < 0 → Ci mX12_turned d [(2, v0), (0, x6)] K H10 (fun x29 H28 => Cv mX12_tellsNumber d [(2, v0), (0, x29)] K H28 (fun H30 => Cv mX12_tells0 d [(2, v0), (0, 47)] K H30 (fun H32 => Ci mX12_sign d [(2, v0), (0, x8)] K H32 (fun x35 H34 => ((¬ (x35 : Int) < 0 → Cv mX12_tellsNumber d [(2, v0), (0, x8)] K H34 (fun H37 => ∀ H39 : Mem, H39 = upA H37 (v0 : Int).toNat (up1 (H37 (v0 : Int).toNat) 0 0) → q (H39 (v0 : Int).toNat 9) H39)) ∧ ((x35 : Int) < 0 → Ci mX12_turned d [(2, v0), (0, x8)] K H34 (fun x41 H40 => Cv mX12_tellsNumber d [(2, v0), (0, x41)] K H40 (fun H42 => ∀ H44 : Mem, H44 = upA H42 (v0 : Int).toNat (up1 (H42 (v0 : Int).toNat) 0 0) → q (H44 (v0 : Int).toNat 9) H44))))))))))))))) : FX12_tells_0 d K H q (v0) (v1) (v2) := by
  unfold FX12_tells_0
  refine r_aload_n 0 dX12_tells_0 rfl rfl ?_
  refine r_iload_n 1 dX12_tells_1 rfl rfl ?_
  refine r_iload_n 2 dX12_tells_2 rfl rfl ?_
  obtain ⟨h1, h⟩ := h
  obtain ⟨h2, h⟩ := h
  refine r_invV (M := mX12_tells) (As := [(0, v1), (0, v2)]) (st := []) (X := v0) (mc := 0) (ms := 0) (fc := 0) (fs := 0) h ok_X12_common cls12 im_X12_common se_X12_common ml_RX12_168 dX12_tells_3 rfl h1 h2 (Nat.le_of_ble_eq_true rfl) rfl ?_
  rintro r K1 H3 ⟨rfl, x4, rfl, h⟩ -
  show Fr mX12_tells (d + 1) 0 0 none 6 [(0, (2, v0)), (1, (0, v1)), (2, (0, v2))] [(0, x4)] _ H3 _
  refine r_istore_n dX12_tells_6 rfl (by decide) rfl ?_
  refine r_aload_n 1 dX12_tells_7 rfl rfl ?_
  refine r_iload_n 2 dX12_tells_8 rfl rfl ?_
  refine r_iload_n 0 dX12_tells_9 rfl rfl ?_
  refine r_invV (M := mX12_tells) (As := [(0, v1), (0, x4)]) (st := []) (X := v0) (mc := 0) (ms := 0) (fc := 0) (fs := 0) h ok_X12_divided cls12 im_X12_divided se_X12_divided ml_RX12_171 dX12_tells_10 rfl h1 h2 (Nat.le_of_ble_eq_true rfl) rfl ?_
  rintro r K1 H5 ⟨rfl, x6, rfl, h⟩ -
  show Fr mX12_tells (d + 1) 0 0 none 13 [(3, (0, x4)), (0, (2, v0)), (1, (0, v1)), (2, (0, v2))] [(0, x6)] _ H5 _
  refine r_istore dX12_tells_13 (by decide) rfl ?_
  refine r_aload_n 2 dX12_tells_15 rfl rfl ?_
  refine r_iload_n 4 dX12_tells_16 rfl rfl ?_
  refine r_iload_n 1 dX12_tells_17 rfl rfl ?_
  refine r_invV (M := mX12_tells) (As := [(0, v2), (0, x4)]) (st := []) (X := v0) (mc := 0) (ms := 0) (fc := 0) (fs := 0) h ok_X12_divided cls12 im_X12_divided se_X12_divided ml_RX12_171 dX12_tells_18 rfl h1 h2 (Nat.le_of_ble_eq_true rfl) rfl ?_
  rintro r K1 H7 ⟨rfl, x8, rfl, h⟩ -
  show Fr mX12_tells (d + 1) 0 0 none 21 [(4, (0, x6)), (3, (0, x4)), (0, (2, v0)), (1, (0, v1)), (2, (0, v2))] [(0, x8)] _ H7 _
  refine r_istore dX12_tells_21 (by decide) rfl ?_
  refine r_aload_n 3 dX12_tells_23 rfl rfl ?_
  refine r_iconst dX12_tells_24 (by decide) (by decide) ?_
  refine r_putf cls12 9 dX12_tells_25 (by decide) rfl fl_RX12_160 rfl h1 h2 (fun o => o) ?_
  replace h := h _ rfl
  generalize upA H7 (v0 : Int).toNat (up1 (H7 (v0 : Int).toNat) 9 0) = H9 at h ⊢
  refine r_aload_n 3 dX12_tells_28 rfl rfl ?_
  refine r_aload_n 3 dX12_tells_29 rfl rfl ?_
  refine r_iload 0 dX12_tells_30 rfl ?_
  refine r_invV (M := mX12_tells) (As := [(0, x8)]) (st := [(2, v0)]) (X := v0) (mc := 0) (ms := 0) (fc := 0) (fs := 0) h ok_X12_sign cls12 im_X12_sign se_X12_sign ml_RX12_112 dX12_tells_32 rfl h1 h2 (Nat.le_of_ble_eq_true rfl) rfl ?_
  rintro r K1 H10 ⟨rfl, x11, rfl, h⟩ -
  show Fr mX12_tells (d + 1) 0 0 none 35 [(5, (0, x8)), (4, (0, x6)), (3, (0, x4)), (0, (2, v0)), (1, (0, v1)), (2, (0, v2))] [(0, x11), (2, v0)] _ H10 _
  refine r_if_ge (tgt := 47) dX12_tells_35 (by decide) (fun c12 => ?_) (fun c12 => ?_)
  · replace h := h.1 c12
    refine r_iload 1 dX12_tells_47 rfl ?_
    refine r_invV (M := mX12_tells) (As := [(0, x6)]) (st := []) (X := v0) (mc := 0) (ms := 0) (fc := 0) (fs := 0) h ok_X12_tellsNumber cls12 im_X12_tellsNumber se_X12_tellsNumber ml_RX12_174 dX12_tells_49 rfl h1 h2 (Nat.le_of_ble_eq_true rfl) rfl ?_
    rintro r K1 H13 ⟨rfl, rfl, h⟩ -
    show Fr mX12_tells (d + 1) 0 0 none 52 [(5, (0, x8)), (4, (0, x6)), (3, (0, x4)), (0, (2, v0)), (1, (0, v1)), (2, (0, v2))] [] _ H13 _
    refine r_aload_n 3 dX12_tells_52 rfl rfl ?_
    refine r_bipush dX12_tells_53 (by decide) (by decide) ?_
    refine r_invV (M := mX12_tells) (As := [(0, 47)]) (st := []) (X := v0) (mc := 0) (ms := 0) (fc := 0) (fs := 0) h ok_X12_tells0 cls12 im_X12_tells0 se_X12_tells0 ml_RX12_163 dX12_tells_55 rfl h1 h2 (Nat.le_of_ble_eq_true rfl) rfl ?_
    rintro r K1 H15 ⟨rfl, rfl, h⟩ -
    show Fr mX12_tells (d + 1) 0 0 none 58 [(5, (0, x8)), (4, (0, x6)), (3, (0, x4)), (0, (2, v0)), (1, (0, v1)), (2, (0, v2))] [] _ H15 _
    refine r_aload_n 3 dX12_tells_58 rfl rfl ?_
    refine r_aload_n 3 dX12_tells_59 rfl rfl ?_
    refine r_iload 0 dX12_tells_60 rfl ?_
    refine r_invV (M := mX12_tells) (As := [(0, x8)]) (st := [(2, v0)]) (X := v0) (mc := 0) (ms := 0) (fc := 0) (fs := 0) h ok_X12_sign cls12 im_X12_sign se_X12_sign ml_RX12_112 dX12_tells_62 rfl h1 h2 (Nat.le_of_ble_eq_true rfl) rfl ?_
    rintro r K1 H17 ⟨rfl, x18, rfl, h⟩ -
    show Fr mX12_tells (d + 1) 0 0 none 65 [(5, (0, x8)), (4, (0, x6)), (3, (0, x4)), (0, (2, v0)), (1, (0, v1)), (2, (0, v2))] [(0, x18), (2, v0)] _ H17 _
    refine r_if_ge (tgt := 77) dX12_tells_65 (by decide) (fun c19 => ?_) (fun c19 => ?_)
    · replace h := h.1 c19
      refine r_iload 0 dX12_tells_77 rfl ?_
      refine r_invV (M := mX12_tells) (As := [(0, x8)]) (st := []) (X := v0) (mc := 0) (ms := 0) (fc := 0) (fs := 0) h ok_X12_tellsNumber cls12 im_X12_tellsNumber se_X12_tellsNumber ml_RX12_174 dX12_tells_79 rfl h1 h2 (Nat.le_of_ble_eq_true rfl) rfl ?_
      rintro r K1 H20 ⟨rfl, rfl, h⟩ -
      show Fr mX12_tells (d + 1) 0 0 none 82 [(5, (0, x8)), (4, (0, x6)), (3, (0, x4)), (0, (2, v0)), (1, (0, v1)), (2, (0, v2))] [] _ H20 _
      refine r_aload_n 3 dX12_tells_82 rfl rfl ?_
      refine r_iconst dX12_tells_83 (by decide) (by decide) ?_
      refine r_putf cls12 0 dX12_tells_84 (by decide) rfl fl_RX12_89 rfl h1 h2 (fun o => o) ?_
      replace h := h _ rfl
      generalize upA H20 (v0 : Int).toNat (up1 (H20 (v0 : Int).toNat) 0 0) = H22 at h ⊢
      refine r_aload_n 3 dX12_tells_87 rfl rfl ?_
      refine r_getf cls12 9 dX12_tells_88 (by decide) fl_RX12_160 rfl h1 h2 ?_
      exact r_iret dX12_tells_91 rfl ⟨rfl, _, rfl, h⟩
    · replace h := h.2 c19
      refine r_aload_n 3 dX12_tells_68 rfl rfl ?_
      refine r_iload 0 dX12_tells_69 rfl ?_
      refine r_invV (M := mX12_tells) (As := [(0, x8)]) (st := [(2, v0)]) (X := v0) (mc := 0) (ms := 0) (fc := 0) (fs := 0) h ok_X12_turned cls12 im_X12_turned se_X12_turned ml_RX12_129 dX12_tells_71 rfl h1 h2 (Nat.le_of_ble_eq_true rfl) rfl ?_
      rintro r K1 H23 ⟨rfl, x24, rfl, h⟩ -
      show Fr mX12_tells (d + 1) 0 0 none 74 [(5, (0, x8)), (4, (0, x6)), (3, (0, x4)), (0, (2, v0)), (1, (0, v1)), (2, (0, v2))] [(0, x24), (2, v0)] _ H23 _
      refine r_goto (tgt := 79) dX12_tells_74 (by decide) ?_
      refine r_invV (M := mX12_tells) (As := [(0, x24)]) (st := []) (X := v0) (mc := 0) (ms := 0) (fc := 0) (fs := 0) h ok_X12_tellsNumber cls12 im_X12_tellsNumber se_X12_tellsNumber ml_RX12_174 dX12_tells_79 rfl h1 h2 (Nat.le_of_ble_eq_true rfl) rfl ?_
      rintro r K1 H25 ⟨rfl, rfl, h⟩ -
      show Fr mX12_tells (d + 1) 0 0 none 82 [(5, (0, x8)), (4, (0, x6)), (3, (0, x4)), (0, (2, v0)), (1, (0, v1)), (2, (0, v2))] [] _ H25 _
      refine r_aload_n 3 dX12_tells_82 rfl rfl ?_
      refine r_iconst dX12_tells_83 (by decide) (by decide) ?_
      refine r_putf cls12 0 dX12_tells_84 (by decide) rfl fl_RX12_89 rfl h1 h2 (fun o => o) ?_
      replace h := h _ rfl
      generalize upA H25 (v0 : Int).toNat (up1 (H25 (v0 : Int).toNat) 0 0) = H27 at h ⊢
      refine r_aload_n 3 dX12_tells_87 rfl rfl ?_
      refine r_getf cls12 9 dX12_tells_88 (by decide) fl_RX12_160 rfl h1 h2 ?_
      exact r_iret dX12_tells_91 rfl ⟨rfl, _, rfl, h⟩
  · replace h := h.2 c12
    refine r_aload_n 3 dX12_tells_38 rfl rfl ?_
    refine r_iload 1 dX12_tells_39 rfl ?_
    refine r_invV (M := mX12_tells) (As := [(0, x6)]) (st := [(2, v0)]) (X := v0) (mc := 0) (ms := 0) (fc := 0) (fs := 0) h ok_X12_turned cls12 im_X12_turned se_X12_turned ml_RX12_129 dX12_tells_41 rfl h1 h2 (Nat.le_of_ble_eq_true rfl) rfl ?_
    rintro r K1 H28 ⟨rfl, x29, rfl, h⟩ -
    show Fr mX12_tells (d + 1) 0 0 none 44 [(5, (0, x8)), (4, (0, x6)), (3, (0, x4)), (0, (2, v0)), (1, (0, v1)), (2, (0, v2))] [(0, x29), (2, v0)] _ H28 _
    refine r_goto (tgt := 49) dX12_tells_44 (by decide) ?_
    refine r_invV (M := mX12_tells) (As := [(0, x29)]) (st := []) (X := v0) (mc := 0) (ms := 0) (fc := 0) (fs := 0) h ok_X12_tellsNumber cls12 im_X12_tellsNumber se_X12_tellsNumber ml_RX12_174 dX12_tells_49 rfl h1 h2 (Nat.le_of_ble_eq_true rfl) rfl ?_
    rintro r K1 H30 ⟨rfl, rfl, h⟩ -
    show Fr mX12_tells (d + 1) 0 0 none 52 [(5, (0, x8)), (4, (0, x6)), (3, (0, x4)), (0, (2, v0)), (1, (0, v1)), (2, (0, v2))] [] _ H30 _
    refine r_aload_n 3 dX12_tells_52 rfl rfl ?_
    refine r_bipush dX12_tells_53 (by decide) (by decide) ?_
    refine r_invV (M := mX12_tells) (As := [(0, 47)]) (st := []) (X := v0) (mc := 0) (ms := 0) (fc := 0) (fs := 0) h ok_X12_tells0 cls12 im_X12_tells0 se_X12_tells0 ml_RX12_163 dX12_tells_55 rfl h1 h2 (Nat.le_of_ble_eq_true rfl) rfl ?_
    rintro r K1 H32 ⟨rfl, rfl, h⟩ -
    show Fr mX12_tells (d + 1) 0 0 none 58 [(5, (0, x8)), (4, (0, x6)), (3, (0, x4)), (0, (2, v0)), (1, (0, v1)), (2, (0, v2))] [] _ H32 _
    refine r_aload_n 3 dX12_tells_58 rfl rfl ?_
    refine r_aload_n 3 dX12_tells_59 rfl rfl ?_
    refine r_iload 0 dX12_tells_60 rfl ?_
    refine r_invV (M := mX12_tells) (As := [(0, x8)]) (st := [(2, v0)]) (X := v0) (mc := 0) (ms := 0) (fc := 0) (fs := 0) h ok_X12_sign cls12 im_X12_sign se_X12_sign ml_RX12_112 dX12_tells_62 rfl h1 h2 (Nat.le_of_ble_eq_true rfl) rfl ?_
    rintro r K1 H34 ⟨rfl, x35, rfl, h⟩ -
    show Fr mX12_tells (d + 1) 0 0 none 65 [(5, (0, x8)), (4, (0, x6)), (3, (0, x4)), (0, (2, v0)), (1, (0, v1)), (2, (0, v2))] [(0, x35), (2, v0)] _ H34 _
    refine r_if_ge (tgt := 77) dX12_tells_65 (by decide) (fun c36 => ?_) (fun c36 => ?_)
    · replace h := h.1 c36
      refine r_iload 0 dX12_tells_77 rfl ?_
      refine r_invV (M := mX12_tells) (As := [(0, x8)]) (st := []) (X := v0) (mc := 0) (ms := 0) (fc := 0) (fs := 0) h ok_X12_tellsNumber cls12 im_X12_tellsNumber se_X12_tellsNumber ml_RX12_174 dX12_tells_79 rfl h1 h2 (Nat.le_of_ble_eq_true rfl) rfl ?_
      rintro r K1 H37 ⟨rfl, rfl, h⟩ -
      show Fr mX12_tells (d + 1) 0 0 none 82 [(5, (0, x8)), (4, (0, x6)), (3, (0, x4)), (0, (2, v0)), (1, (0, v1)), (2, (0, v2))] [] _ H37 _
      refine r_aload_n 3 dX12_tells_82 rfl rfl ?_
      refine r_iconst dX12_tells_83 (by decide) (by decide) ?_
      refine r_putf cls12 0 dX12_tells_84 (by decide) rfl fl_RX12_89 rfl h1 h2 (fun o => o) ?_
      replace h := h _ rfl
      generalize upA H37 (v0 : Int).toNat (up1 (H37 (v0 : Int).toNat) 0 0) = H39 at h ⊢
      refine r_aload_n 3 dX12_tells_87 rfl rfl ?_
      refine r_getf cls12 9 dX12_tells_88 (by decide) fl_RX12_160 rfl h1 h2 ?_
      exact r_iret dX12_tells_91 rfl ⟨rfl, _, rfl, h⟩
    · replace h := h.2 c36
      refine r_aload_n 3 dX12_tells_68 rfl rfl ?_
      refine r_iload 0 dX12_tells_69 rfl ?_
      refine r_invV (M := mX12_tells) (As := [(0, x8)]) (st := [(2, v0)]) (X := v0) (mc := 0) (ms := 0) (fc := 0) (fs := 0) h ok_X12_turned cls12 im_X12_turned se_X12_turned ml_RX12_129 dX12_tells_71 rfl h1 h2 (Nat.le_of_ble_eq_true rfl) rfl ?_
      rintro r K1 H40 ⟨rfl, x41, rfl, h⟩ -
      show Fr mX12_tells (d + 1) 0 0 none 74 [(5, (0, x8)), (4, (0, x6)), (3, (0, x4)), (0, (2, v0)), (1, (0, v1)), (2, (0, v2))] [(0, x41), (2, v0)] _ H40 _
      refine r_goto (tgt := 79) dX12_tells_74 (by decide) ?_
      refine r_invV (M := mX12_tells) (As := [(0, x41)]) (st := []) (X := v0) (mc := 0) (ms := 0) (fc := 0) (fs := 0) h ok_X12_tellsNumber cls12 im_X12_tellsNumber se_X12_tellsNumber ml_RX12_174 dX12_tells_79 rfl h1 h2 (Nat.le_of_ble_eq_true rfl) rfl ?_
      rintro r K1 H42 ⟨rfl, rfl, h⟩ -
      show Fr mX12_tells (d + 1) 0 0 none 82 [(5, (0, x8)), (4, (0, x6)), (3, (0, x4)), (0, (2, v0)), (1, (0, v1)), (2, (0, v2))] [] _ H42 _
      refine r_aload_n 3 dX12_tells_82 rfl rfl ?_
      refine r_iconst dX12_tells_83 (by decide) (by decide) ?_
      refine r_putf cls12 0 dX12_tells_84 (by decide) rfl fl_RX12_89 rfl h1 h2 (fun o => o) ?_
      replace h := h _ rfl
      generalize upA H42 (v0 : Int).toNat (up1 (H42 (v0 : Int).toNat) 0 0) = H44 at h ⊢
      refine r_aload_n 3 dX12_tells_87 rfl rfl ?_
      refine r_getf cls12 9 dX12_tells_88 (by decide) fl_RX12_160 rfl h1 h2 ?_
      exact r_iret dX12_tells_91 rfl ⟨rfl, _, rfl, h⟩
set_option maxHeartbeats 4000000 in
set_option maxRecDepth 20000 in
theorem eX12_tells {d : Nat} {K : Shp} {H : Mem} {q : Int → Mem → Prop} {v0 v1 v2 : Int} (h : inI v1 → inI v2 → Rng K H → FX12_tells_0 d K H q v0 v1 v2) : Ci mX12_tells (d + 1) [(2, v0), (0, v1), (0, v2)] K H q := Call.of rfl (Nat.le_of_ble_eq_true rfl) (fun o r => h (o (0, v1) (by simp)) (o (0, v2) (by simp)) r)
def FX12_isSection_0 (d : Nat) (K : Shp) (H : Mem) (q : Int → Mem → Prop) (v0 : Int) : Prop := Fr mX12_isSection d 0 0 none 0 [(0, (0, v0))] [] K H (qi K q)
set_option maxHeartbeats 4000000 in
set_option maxRecDepth 20000 in
theorem bX12_isSection_0 {d : Nat} {K : Shp} {H : Mem} {q : Int → Mem → Prop} {v0 : Int} (h : (((v0 : Int) < 0 → q 0 H) ∧ (¬ (v0 : Int) < 0 → ((¬ (v0 : Int) < 4 → q 0 H) ∧ ((v0 : Int) < 4 → q 1 H))))) : FX12_isSection_0 d K H q (v0) := by
  unfold FX12_isSection_0
  refine r_iload_n 0 dX12_isSection_0 rfl rfl ?_
  refine r_if_lt (tgt := 13) dX12_isSection_1 (by decide) (fun c1 => ?_) (fun c1 => ?_)
  · replace h := h.1 c1
    refine r_iconst dX12_isSection_13 (by decide) (by decide) ?_
    exact r_zret dX12_isSection_14 rfl (Or.inl rfl) ⟨rfl, _, rfl, h⟩
  · replace h := h.2 c1
    refine r_iload_n 0 dX12_isSection_4 rfl rfl ?_
    refine r_iconst dX12_isSection_5 (by decide) (by decide) ?_
    refine r_icmp_ge (tgt := 13) dX12_isSection_6 (by decide) (fun c2 => ?_) (fun c2 => ?_)
    · replace h := h.1 c2
      refine r_iconst dX12_isSection_13 (by decide) (by decide) ?_
      exact r_zret dX12_isSection_14 rfl (Or.inl rfl) ⟨rfl, _, rfl, h⟩
    · replace h := h.2 c2
      refine r_iconst dX12_isSection_9 (by decide) (by decide) ?_
      refine r_goto (tgt := 14) dX12_isSection_10 (by decide) ?_
      exact r_zret dX12_isSection_14 rfl (Or.inr rfl) ⟨rfl, _, rfl, h⟩
set_option maxHeartbeats 4000000 in
set_option maxRecDepth 20000 in
theorem eX12_isSection {d : Nat} {K : Shp} {H : Mem} {q : Int → Mem → Prop} {v0 : Int} (h : inI v0 → Rng K H → FX12_isSection_0 d K H q v0) : Ci mX12_isSection d [(0, v0)] K H q := Call.of rfl (Nat.le_of_ble_eq_true rfl) (fun o r => h (o (0, v0) (by simp)) r)
def FX12_stone_0 (d : Nat) (K : Shp) (H : Mem) (q : Int → Mem → Prop) (v0 : Int) (v1 : Int) (v2 : Int) (v3 : Int) : Prop := Fr mX12_stone (d + 1) 0 0 none 0 [(0, (2, v0)), (1, (0, v1)), (2, (0, v2)), (3, (0, v3))] [] K H (qi K q)
def FX12_stone_78 (d : Nat) (K : Shp) (H : Mem) (q : Int → Mem → Prop) (v0 : Int) (v1 : Int) (v4 : Int) : Prop := Fr mX12_stone (d + 1) 0 0 none 78 [(0, (2, v0)), (1, (0, v1)), (4, (0, v4))] [] K H (qi K q)
set_option maxHeartbeats 4000000 in
set_option maxRecDepth 20000 in
theorem bX12_stone_0 {d : Nat} {K : Shp} {H : Mem} {q : Int → Mem → Prop} {v0 v1 v2 v3 : Int} (h : Ci mX12_isSection d [(0, v1)] K H (fun x2 H1 => ((¬ (x2 : Int) = 0 → (((v2 : Int) < 1 → ((0 : Int) ≤ v0) ∧ (K[(v0 : Int).toNat]? = some (12, 51)) ∧ Ci mX12_is d [(2, v0), (0, 2)] K H1 (fun x8 H7 => ((x8 : Int) = 0 ∨ (x8 : Int) = 1) ∧ q x8 H7)) ∧ (¬ (v2 : Int) < 1 → ((¬ (v2 : Int) ≤ 50 → ((0 : Int) ≤ v0) ∧ (K[(v0 : Int).toNat]? = some (12, 51)) ∧ Ci mX12_is d [(2, v0), (0, 2)] K H1 (fun x14 H13 => ((x14 : Int) = 0 ∨ (x14 : Int) = 1) ∧ q x14 H13)) ∧ ((v2 : Int) ≤ 50 → (((v3 : Int) < 0 → ((0 : Int) ≤ v0) ∧ (K[(v0 : Int).toNat]? = some (12, 51)) ∧ Ci mX12_is d [(2, v0), (0, 2)] K H1 (fun x20 H19 => ((x20 : Int) = 0 ∨ (x20 : Int) = 1) ∧ q x20 H19)) ∧ (¬ (v3 : Int) < 0 → (((v3 : Int) ≤ 100 → ((0 : Int) ≤ v0) ∧ (K[(v0 : Int).toNat]? = some (12, 51)) ∧ ((0 : Int) ≤ (H1 (v0 : Int).toNat 10)) ∧ ∃ n26 : Nat, (K[((H1 (v0 : Int).toNat 10) : Int).toNat]? = some (20, n26)) ∧ ((0 : Int) ≤ v1) ∧ ((v1 : Int) < n26) ∧ ∀ H30 : Mem, H30 = upA H1 ((H1 (v0 : Int).toNat 10) : Int).toNat (up1 (H1 ((H1 (v0 : Int).toNat 10) : Int).toNat) (v1 : Int).toNat v2) → ((0 : Int) ≤ (H30 (v0 : Int).toNat 11)) ∧ ∃ n32 : Nat, (K[((H30 (v0 : Int).toNat 11) : Int).toNat]? = some (20, n32)) ∧ ((v1 : Int) < n32) ∧ ∀ H35 : Mem, H35 = upA H30 ((H30 (v0 : Int).toNat 11) : Int).toNat (up1 (H30 ((H30 (v0 : Int).toNat 11) : Int).toNat) (v1 : Int).toNat v3) → ((0 : Int) ≤ (H35 (v0 : Int).toNat 12)) ∧ ∃ n37 : Nat, (K[((H35 (v0 : Int).toNat 12) : Int).toNat]? = some (20, n37)) ∧ ((v1 : Int) < n37) ∧ ∀ H40 : Mem, H40 = upA H35 ((H35 (v0 : Int).toNat 12) : Int).toNat (up1 (H35 ((H35 (v0 : Int).toNat 12) : Int).toNat) (v1 : Int).toNat 0) → ((0 : Int) ≤ (H40 (v0 : Int).toNat 13)) ∧ ∃ n42 : Nat, (K[((H40 (v0 : Int).toNat 13) : Int).toNat]? = some (20, n42)) ∧ ((v1 : Int) < n42) ∧ ∀ H45 : Mem, H45 = upA H40 ((H40 (v0 : Int).toNat 13) : Int).toNat (up1 (H40 ((H40 (v0 : Int).toNat 13) : Int).toNat) (v1 : Int).toNat 0) → ((0 : Int) ≤ (H45 (v0 : Int).toNat 14)) ∧ ∃ n47 : Nat, (K[((H45 (v0 : Int).toNat 14) : Int).toNat]? = some (20, n47)) ∧ ((v1 : Int) < n47) ∧ ∀ H50 : Mem, H50 = upA H45 ((H45 (v0 : Int).toNat 14) : Int).toNat (up1 (H45 ((H45 (v0 : Int).toNat 14) : Int).toNat) (v1 : Int).toNat 0) → FX12_stone_78 d K H50 q (v0) (v1) (0)) ∧ (¬ (v3 : Int) ≤ 100 → ((0 : Int) ≤ v0) ∧ (K[(v0 : Int).toNat]? = some (12, 51)) ∧ Ci mX12_is d [(2, v0), (0, 2)] K H1 (fun x54 H53 => ((x54 : Int) = 0 ∨ (x54 : Int) = 1) ∧ q x54 H53)))))))))) ∧ ((x2 : Int) = 0 → ((0 : Int) ≤ v0) ∧ (K[(v0 : Int).toNat]? = some (12, 51)) ∧ Ci mX12_is d [(2, v0), (0, 1)] K H1 (fun x59 H58 => ((x59 : Int) = 0 ∨ (x59 : Int) = 1) ∧ q x59 H58))))) : FX12_stone_0 d K H q (v0) (v1) (v2) (v3) := by
  unfold FX12_stone_0
  refine r_iload_n 1 dX12_stone_0 rfl rfl ?_
  refine r_invS (M := mX12_stone) (As := [(0, v1)]) (st := []) (mc := 0) (ms := 0) (fc := 0) (fs := 0) h ok_X12_isSection sm_X12_isSection ml_RX12_177 dX12_stone_1 rfl (Nat.le_of_ble_eq_true rfl) rfl ?_
  rintro r K1 H1 ⟨rfl, x2, rfl, h⟩ -
  show Fr mX12_stone (d + 1) 0 0 none 4 [(0, (2, v0)), (1, (0, v1)), (2, (0, v2)), (3, (0, v3))] [(0, x2)] _ H1 _
  refine r_if_ne (tgt := 13) dX12_stone_4 (by decide) (fun c3 => ?_) (fun c3 => ?_)
  · replace h := h.1 c3
    refine r_iload_n 2 dX12_stone_13 rfl rfl ?_
    refine r_iconst dX12_stone_14 (by decide) (by decide) ?_
    refine r_icmp_lt (tgt := 34) dX12_stone_15 (by decide) (fun c4 => ?_) (fun c4 => ?_)
    · replace h := h.1 c4
      refine r_aload_n 0 dX12_stone_34 rfl rfl ?_
      refine r_iconst dX12_stone_35 (by decide) (by decide) ?_
      obtain ⟨h5, h⟩ := h
      obtain ⟨h6, h⟩ := h
      refine r_invV (M := mX12_stone) (As := [(0, 2)]) (st := []) (X := v0) (mc := 0) (ms := 0) (fc := 0) (fs := 0) h ok_X12_is cls12 im_X12_is se_X12_is ml_RX12_181 dX12_stone_36 rfl h5 h6 (Nat.le_of_ble_eq_true rfl) rfl ?_
      rintro r K1 H7 ⟨rfl, x8, rfl, h⟩ -
      show Fr mX12_stone (d + 1) 0 0 none 39 [(0, (2, v0)), (1, (0, v1)), (2, (0, v2)), (3, (0, v3))] [(0, x8)] _ H7 _
      obtain ⟨h9, h⟩ := h
      exact r_zret dX12_stone_39 rfl h9 ⟨rfl, _, rfl, h⟩
    · replace h := h.2 c4
      refine r_iload_n 2 dX12_stone_18 rfl rfl ?_
      refine r_bipush dX12_stone_19 (by decide) (by decide) ?_
      refine r_icmp_gt (tgt := 34) dX12_stone_21 (by decide) (fun c10 => ?_) (fun c10 => ?_)
      · replace h := h.1 c10
        refine r_aload_n 0 dX12_stone_34 rfl rfl ?_
        refine r_iconst dX12_stone_35 (by decide) (by decide) ?_
        obtain ⟨h11, h⟩ := h
        obtain ⟨h12, h⟩ := h
        refine r_invV (M := mX12_stone) (As := [(0, 2)]) (st := []) (X := v0) (mc := 0) (ms := 0) (fc := 0) (fs := 0) h ok_X12_is cls12 im_X12_is se_X12_is ml_RX12_181 dX12_stone_36 rfl h11 h12 (Nat.le_of_ble_eq_true rfl) rfl ?_
        rintro r K1 H13 ⟨rfl, x14, rfl, h⟩ -
        show Fr mX12_stone (d + 1) 0 0 none 39 [(0, (2, v0)), (1, (0, v1)), (2, (0, v2)), (3, (0, v3))] [(0, x14)] _ H13 _
        obtain ⟨h15, h⟩ := h
        exact r_zret dX12_stone_39 rfl h15 ⟨rfl, _, rfl, h⟩
      · replace h := h.2 c10
        refine r_iload_n 3 dX12_stone_24 rfl rfl ?_
        refine r_if_lt (tgt := 34) dX12_stone_25 (by decide) (fun c16 => ?_) (fun c16 => ?_)
        · replace h := h.1 c16
          refine r_aload_n 0 dX12_stone_34 rfl rfl ?_
          refine r_iconst dX12_stone_35 (by decide) (by decide) ?_
          obtain ⟨h17, h⟩ := h
          obtain ⟨h18, h⟩ := h
          refine r_invV (M := mX12_stone) (As := [(0, 2)]) (st := []) (X := v0) (mc := 0) (ms := 0) (fc := 0) (fs := 0) h ok_X12_is cls12 im_X12_is se_X12_is ml_RX12_181 dX12_stone_36 rfl h17 h18 (Nat.le_of_ble_eq_true rfl) rfl ?_
          rintro r K1 H19 ⟨rfl, x20, rfl, h⟩ -
          show Fr mX12_stone (d + 1) 0 0 none 39 [(0, (2, v0)), (1, (0, v1)), (2, (0, v2)), (3, (0, v3))] [(0, x20)] _ H19 _
          obtain ⟨h21, h⟩ := h
          exact r_zret dX12_stone_39 rfl h21 ⟨rfl, _, rfl, h⟩
        · replace h := h.2 c16
          refine r_iload_n 3 dX12_stone_28 rfl rfl ?_
          refine r_bipush dX12_stone_29 (by decide) (by decide) ?_
          refine r_icmp_le (tgt := 40) dX12_stone_31 (by decide) (fun c22 => ?_) (fun c22 => ?_)
          · replace h := h.1 c22
            refine r_aload_n 0 dX12_stone_40 rfl rfl ?_
            obtain ⟨h23, h⟩ := h
            obtain ⟨h24, h⟩ := h
            refine r_getf cls12 10 dX12_stone_41 (by decide) fl_RX12_25 rfl h23 h24 ?_
            refine r_iload_n 1 dX12_stone_44 rfl rfl ?_
            refine r_iload_n 2 dX12_stone_45 rfl rfl ?_
            obtain ⟨h25, h⟩ := h
            obtain ⟨n26, h⟩ := h
            obtain ⟨h27, h⟩ := h
            obtain ⟨h28, h⟩ := h
            obtain ⟨h29, h⟩ := h
            refine r_iast n26 dX12_stone_46 h25 h27 h28 h29 ?_
            replace h := h _ rfl
            generalize upA H1 ((H1 (v0 : Int).toNat 10) : Int).toNat (up1 (H1 ((H1 (v0 : Int).toNat 10) : Int).toNat) (v1 : Int).toNat v2) = H30 at h ⊢
            refine r_aload_n 0 dX12_stone_47 rfl rfl ?_
            refine r_getf cls12 11 dX12_stone_48 (by decide) fl_RX12_28 rfl h23 h24 ?_
            refine r_iload_n 1 dX12_stone_51 rfl rfl ?_
            refine r_iload_n 3 dX12_stone_52 rfl rfl ?_
            obtain ⟨h31, h⟩ := h
            obtain ⟨n32, h⟩ := h
            obtain ⟨h33, h⟩ := h
            obtain ⟨h34, h⟩ := h
            refine r_iast n32 dX12_stone_53 h31 h33 h28 h34 ?_
            replace h := h _ rfl
            generalize upA H30 ((H30 (v0 : Int).toNat 11) : Int).toNat (up1 (H30 ((H30 (v0 : Int).toNat 11) : Int).toNat) (v1 : Int).toNat v3) = H35 at h ⊢
            refine r_aload_n 0 dX12_stone_54 rfl rfl ?_
            refine r_getf cls12 12 dX12_stone_55 (by decide) fl_RX12_31 rfl h23 h24 ?_
            refine r_iload_n 1 dX12_stone_58 rfl rfl ?_
            refine r_iconst dX12_stone_59 (by decide) (by decide) ?_
            obtain ⟨h36, h⟩ := h
            obtain ⟨n37, h⟩ := h
            obtain ⟨h38, h⟩ := h
            obtain ⟨h39, h⟩ := h
            refine r_iast n37 dX12_stone_60 h36 h38 h28 h39 ?_
            replace h := h _ rfl
            generalize upA H35 ((H35 (v0 : Int).toNat 12) : Int).toNat (up1 (H35 ((H35 (v0 : Int).toNat 12) : Int).toNat) (v1 : Int).toNat 0) = H40 at h ⊢
            refine r_aload_n 0 dX12_stone_61 rfl rfl ?_
            refine r_getf cls12 13 dX12_stone_62 (by decide) fl_RX12_34 rfl h23 h24 ?_
            refine r_iload_n 1 dX12_stone_65 rfl rfl ?_
            refine r_iconst dX12_stone_66 (by decide) (by decide) ?_
            obtain ⟨h41, h⟩ := h
            obtain ⟨n42, h⟩ := h
            obtain ⟨h43, h⟩ := h
            obtain ⟨h44, h⟩ := h
            refine r_iast n42 dX12_stone_67 h41 h43 h28 h44 ?_
            replace h := h _ rfl
            generalize upA H40 ((H40 (v0 : Int).toNat 13) : Int).toNat (up1 (H40 ((H40 (v0 : Int).toNat 13) : Int).toNat) (v1 : Int).toNat 0) = H45 at h ⊢
            refine r_aload_n 0 dX12_stone_68 rfl rfl ?_
            refine r_getf cls12 14 dX12_stone_69 (by decide) fl_RX12_37 rfl h23 h24 ?_
            refine r_iload_n 1 dX12_stone_72 rfl rfl ?_
            refine r_iconst dX12_stone_73 (by decide) (by decide) ?_
            obtain ⟨h46, h⟩ := h
            obtain ⟨n47, h⟩ := h
            obtain ⟨h48, h⟩ := h
            obtain ⟨h49, h⟩ := h
            refine r_iast n47 dX12_stone_74 h46 h48 h28 h49 ?_
            replace h := h _ rfl
            generalize upA H45 ((H45 (v0 : Int).toNat 14) : Int).toNat (up1 (H45 ((H45 (v0 : Int).toNat 14) : Int).toNat) (v1 : Int).toNat 0) = H50 at h ⊢
            refine r_iconst dX12_stone_75 (by decide) (by decide) ?_
            refine r_istore dX12_stone_76 (by decide) rfl ?_
            refine Fr.fewer [1, 2, 0] rfl ?_
            exact h
          · replace h := h.2 c22
            refine r_aload_n 0 dX12_stone_34 rfl rfl ?_
            refine r_iconst dX12_stone_35 (by decide) (by decide) ?_
            obtain ⟨h51, h⟩ := h
            obtain ⟨h52, h⟩ := h
            refine r_invV (M := mX12_stone) (As := [(0, 2)]) (st := []) (X := v0) (mc := 0) (ms := 0) (fc := 0) (fs := 0) h ok_X12_is cls12 im_X12_is se_X12_is ml_RX12_181 dX12_stone_36 rfl h51 h52 (Nat.le_of_ble_eq_true rfl) rfl ?_
            rintro r K1 H53 ⟨rfl, x54, rfl, h⟩ -
            show Fr mX12_stone (d + 1) 0 0 none 39 [(0, (2, v0)), (1, (0, v1)), (2, (0, v2)), (3, (0, v3))] [(0, x54)] _ H53 _
            obtain ⟨h55, h⟩ := h
            exact r_zret dX12_stone_39 rfl h55 ⟨rfl, _, rfl, h⟩
  · replace h := h.2 c3
    refine r_aload_n 0 dX12_stone_7 rfl rfl ?_
    refine r_iconst dX12_stone_8 (by decide) (by decide) ?_
    obtain ⟨h56, h⟩ := h
    obtain ⟨h57, h⟩ := h
    refine r_invV (M := mX12_stone) (As := [(0, 1)]) (st := []) (X := v0) (mc := 0) (ms := 0) (fc := 0) (fs := 0) h ok_X12_is cls12 im_X12_is se_X12_is ml_RX12_181 dX12_stone_9 rfl h56 h57 (Nat.le_of_ble_eq_true rfl) rfl ?_
    rintro r K1 H58 ⟨rfl, x59, rfl, h⟩ -
    show Fr mX12_stone (d + 1) 0 0 none 12 [(0, (2, v0)), (1, (0, v1)), (2, (0, v2)), (3, (0, v3))] [(0, x59)] _ H58 _
    obtain ⟨h60, h⟩ := h
    exact r_zret dX12_stone_12 rfl h60 ⟨rfl, _, rfl, h⟩
set_option maxHeartbeats 4000000 in
set_option maxRecDepth 20000 in
theorem bX12_stone_78 {d : Nat} {K : Shp} {H : Mem} {q : Int → Mem → Prop} {v0 v1 v4 : Int} (h : ((¬ (v4 : Int) < 100 → ((0 : Int) ≤ v0) ∧ (K[(v0 : Int).toNat]? = some (12, 51)) ∧ Ci mX12_is d [(2, v0), (0, 0)] K H (fun x5 H4 => ((x5 : Int) = 0 ∨ (x5 : Int) = 1) ∧ q x5 H4)) ∧ ((v4 : Int) < 100 → ((0 : Int) ≤ v0) ∧ (K[(v0 : Int).toNat]? = some (12, 51)) ∧ (inI (100 * v1)) ∧ (inI ((100 * v1) + v4)) ∧ ((0 : Int) ≤ (H (v0 : Int).toNat 15)) ∧ ∃ n12 : Nat, (K[((H (v0 : Int).toNat 15) : Int).toNat]? = some (20, n12)) ∧ ((0 : Int) ≤ ((100 * v1) + v4)) ∧ ((((100 * v1) + v4) : Int) < n12) ∧ ∀ H16 : Mem, H16 = upA H ((H (v0 : Int).toNat 15) : Int).toNat (up1 (H ((H (v0 : Int).toNat 15) : Int).toNat) (((100 * v1) + v4) : Int).toNat 0) → (inI (v4 + 1)) ∧ FX12_stone_78 d K H16 q (v0) (v1) ((v4 + 1))))) : FX12_stone_78 d K H q (v0) (v1) (v4) := by
  unfold FX12_stone_78
  refine r_iload 2 dX12_stone_78 rfl ?_
  refine r_bipush dX12_stone_80 (by decide) (by decide) ?_
  refine r_icmp_ge (tgt := 104) dX12_stone_82 (by decide) (fun c1 => ?_) (fun c1 => ?_)
  · replace h := h.1 c1
    refine r_aload_n 0 dX12_stone_104 rfl rfl ?_
    refine r_iconst dX12_stone_105 (by decide) (by decide) ?_
    obtain ⟨h2, h⟩ := h
    obtain ⟨h3, h⟩ := h
    refine r_invV (M := mX12_stone) (As := [(0, 0)]) (st := []) (X := v0) (mc := 0) (ms := 0) (fc := 0) (fs := 0) h ok_X12_is cls12 im_X12_is se_X12_is ml_RX12_181 dX12_stone_106 rfl h2 h3 (Nat.le_of_ble_eq_true rfl) rfl ?_
    rintro r K1 H4 ⟨rfl, x5, rfl, h⟩ -
    show Fr mX12_stone (d + 1) 0 0 none 109 [(0, (2, v0)), (1, (0, v1)), (4, (0, v4))] [(0, x5)] _ H4 _
    obtain ⟨h6, h⟩ := h
    exact r_zret dX12_stone_109 rfl h6 ⟨rfl, _, rfl, h⟩
  · replace h := h.2 c1
    refine r_aload_n 0 dX12_stone_85 rfl rfl ?_
    obtain ⟨h7, h⟩ := h
    obtain ⟨h8, h⟩ := h
    refine r_getf cls12 15 dX12_stone_86 (by decide) fl_RX12_40 rfl h7 h8 ?_
    refine r_bipush dX12_stone_89 (by decide) (by decide) ?_
    refine r_iload_n 1 dX12_stone_91 rfl rfl ?_
    obtain ⟨h9, h⟩ := h
    refine r_imul dX12_stone_92 h9 ?_
    refine r_iload 2 dX12_stone_93 rfl ?_
    obtain ⟨h10, h⟩ := h
    refine r_iadd dX12_stone_95 h10 ?_
    refine r_iconst dX12_stone_96 (by decide) (by decide) ?_
    obtain ⟨h11, h⟩ := h
    obtain ⟨n12, h⟩ := h
    obtain ⟨h13, h⟩ := h
    obtain ⟨h14, h⟩ := h
    obtain ⟨h15, h⟩ := h
    refine r_iast n12 dX12_stone_97 h11 h13 h14 h15 ?_
    replace h := h _ rfl
    generalize upA H ((H (v0 : Int).toNat 15) : Int).toNat (up1 (H ((H (v0 : Int).toNat 15) : Int).toNat) (((100 * v1) + v4) : Int).toNat 0) = H16 at h ⊢
    obtain ⟨h17, h⟩ := h
    refine r_iinc 2 dX12_stone_98 (by decide) rfl h17 rfl ?_
    refine r_goto (tgt := 78) dX12_stone_101 (by decide) ?_
    refine Fr.fewer [1, 2, 0] rfl ?_
    exact h
set_option maxHeartbeats 4000000 in
set_option maxRecDepth 20000 in
theorem eX12_stone {d : Nat} {K : Shp} {H : Mem} {q : Int → Mem → Prop} {v0 v1 v2 v3 : Int} (h : inI v1 → inI v2 → inI v3 → Rng K H → FX12_stone_0 d K H q v0 v1 v2 v3) : Ci mX12_stone (d + 1) [(2, v0), (0, v1), (0, v2), (0, v3)] K H q := Call.of rfl (Nat.le_of_ble_eq_true rfl) (fun o r => h (o (0, v1) (by simp)) (o (0, v2) (by simp)) (o (0, v3) (by simp)) r)
def FX12_band_0 (d : Nat) (K : Shp) (H : Mem) (q : Int → Mem → Prop) (v0 : Int) (v1 : Int) (v2 : Int) (v3 : Int) (v4 : Int) : Prop := Fr mX12_band (d + 1) 0 0 none 0 [(0, (2, v0)), (1, (0, v1)), (2, (0, v2)), (3, (0, v3)), (4, (0, v4))] [] K H (qi K q)
def FX12_band_67 (d : Nat) (K : Shp) (H : Mem) (q : Int → Mem → Prop) (v0 : Int) (v1 : Int) (v2 : Int) (v3 : Int) (v4 : Int) (v5 : Int) : Prop := Fr mX12_band (d + 1) 0 0 none 67 [(0, (2, v0)), (1, (0, v1)), (2, (0, v2)), (3, (0, v3)), (4, (0, v4)), (5, (0, v5))] [] K H (qi K q)
set_option maxHeartbeats 4000000 in
set_option maxRecDepth 20000 in
theorem bX12_band_0 {d : Nat} {K : Shp} {H : Mem} {q : Int → Mem → Prop} {v0 v1 v2 v3 v4 : Int} (h : Ci mX12_isSection d [(0, v1)] K H (fun x2 H1 => ((¬ (x2 : Int) = 0 → (((v2 : Int) < 1 → ((0 : Int) ≤ v0) ∧ (K[(v0 : Int).toNat]? = some (12, 51)) ∧ Ci mX12_refuse d [(2, v0), (0, 2)] K H1 (fun x8 H7 => q x8 H7)) ∧ (¬ (v2 : Int) < 1 → ((¬ (v2 : Int) ≤ 100 → ((0 : Int) ≤ v0) ∧ (K[(v0 : Int).toNat]? = some (12, 51)) ∧ Ci mX12_refuse d [(2, v0), (0, 2)] K H1 (fun x13 H12 => q x13 H12)) ∧ ((v2 : Int) ≤ 100 → (((v3 : Int) < 0 → ((0 : Int) ≤ v0) ∧ (K[(v0 : Int).toNat]? = some (12, 51)) ∧ Ci mX12_refuse d [(2, v0), (0, 2)] K H1 (fun x18 H17 => q x18 H17)) ∧ (¬ (v3 : Int) < 0 → ((¬ (v4 : Int) ≤ 100 → ((0 : Int) ≤ v0) ∧ (K[(v0 : Int).toNat]? = some (12, 51)) ∧ Ci mX12_refuse d [(2, v0), (0, 2)] K H1 (fun x23 H22 => q x23 H22)) ∧ ((v4 : Int) ≤ 100 → (((v3 : Int) < v4 → ((0 : Int) ≤ v0) ∧ (K[(v0 : Int).toNat]? = some (12, 51)) ∧ ((0 : Int) ≤ (H1 (v0 : Int).toNat 12)) ∧ ∃ n28 : Nat, (K[((H1 (v0 : Int).toNat 12) : Int).toNat]? = some (20, n28)) ∧ ((0 : Int) ≤ v1) ∧ ((v1 : Int) < n28) ∧ ((¬ ((H1 ((H1 (v0 : Int).toNat 12) : Int).toNat (v1 : Int).toNat) : Int) = 8 → FX12_band_67 d K H1 q (v0) (v1) (v2) (v3) (v4) (v3)) ∧ (((H1 ((H1 (v0 : Int).toNat 12) : Int).toNat (v1 : Int).toNat) : Int) = 8 → Ci mX12_refuse d [(2, v0), (0, 3)] K H1 (fun x34 H33 => q x34 H33)))) ∧ (¬ (v3 : Int) < v4 → ((0 : Int) ≤ v0) ∧ (K[(v0 : Int).toNat]? = some (12, 51)) ∧ Ci mX12_refuse d [(2, v0), (0, 2)] K H1 (fun x38 H37 => q x38 H37)))))))))))) ∧ ((x2 : Int) = 0 → ((0 : Int) ≤ v0) ∧ (K[(v0 : Int).toNat]? = some (12, 51)) ∧ Ci mX12_refuse d [(2, v0), (0, 1)] K H1 (fun x42 H41 => q x42 H41))))) : FX12_band_0 d K H q (v0) (v1) (v2) (v3) (v4) := by
  unfold FX12_band_0
  refine r_iload_n 1 dX12_band_0 rfl rfl ?_
  refine r_invS (M := mX12_band) (As := [(0, v1)]) (st := []) (mc := 0) (ms := 0) (fc := 0) (fs := 0) h ok_X12_isSection sm_X12_isSection ml_RX12_177 dX12_band_1 rfl (Nat.le_of_ble_eq_true rfl) rfl ?_
  rintro r K1 H1 ⟨rfl, x2, rfl, h⟩ -
  show Fr mX12_band (d + 1) 0 0 none 4 [(0, (2, v0)), (1, (0, v1)), (2, (0, v2)), (3, (0, v3)), (4, (0, v4))] [(0, x2)] _ H1 _
  refine r_if_ne (tgt := 13) dX12_band_4 (by decide) (fun c3 => ?_) (fun c3 => ?_)
  · replace h := h.1 c3
    refine r_iload_n 2 dX12_band_13 rfl rfl ?_
    refine r_iconst dX12_band_14 (by decide) (by decide) ?_
    refine r_icmp_lt (tgt := 41) dX12_band_15 (by decide) (fun c4 => ?_) (fun c4 => ?_)
    · replace h := h.1 c4
      refine r_aload_n 0 dX12_band_41 rfl rfl ?_
      refine r_iconst dX12_band_42 (by decide) (by decide) ?_
      obtain ⟨h5, h⟩ := h
      obtain ⟨h6, h⟩ := h
      refine r_invV (M := mX12_band) (As := [(0, 2)]) (st := []) (X := v0) (mc := 0) (ms := 0) (fc := 0) (fs := 0) h ok_X12_refuse cls12 im_X12_refuse se_X12_refuse ml_RX12_184 dX12_band_43 rfl h5 h6 (Nat.le_of_ble_eq_true rfl) rfl ?_
      rintro r K1 H7 ⟨rfl, x8, rfl, h⟩ -
      show Fr mX12_band (d + 1) 0 0 none 46 [(0, (2, v0)), (1, (0, v1)), (2, (0, v2)), (3, (0, v3)), (4, (0, v4))] [(0, x8)] _ H7 _
      exact r_iret dX12_band_46 rfl ⟨rfl, _, rfl, h⟩
    · replace h := h.2 c4
      refine r_iload_n 2 dX12_band_18 rfl rfl ?_
      refine r_bipush dX12_band_19 (by decide) (by decide) ?_
      refine r_icmp_gt (tgt := 41) dX12_band_21 (by decide) (fun c9 => ?_) (fun c9 => ?_)
      · replace h := h.1 c9
        refine r_aload_n 0 dX12_band_41 rfl rfl ?_
        refine r_iconst dX12_band_42 (by decide) (by decide) ?_
        obtain ⟨h10, h⟩ := h
        obtain ⟨h11, h⟩ := h
        refine r_invV (M := mX12_band) (As := [(0, 2)]) (st := []) (X := v0) (mc := 0) (ms := 0) (fc := 0) (fs := 0) h ok_X12_refuse cls12 im_X12_refuse se_X12_refuse ml_RX12_184 dX12_band_43 rfl h10 h11 (Nat.le_of_ble_eq_true rfl) rfl ?_
        rintro r K1 H12 ⟨rfl, x13, rfl, h⟩ -
        show Fr mX12_band (d + 1) 0 0 none 46 [(0, (2, v0)), (1, (0, v1)), (2, (0, v2)), (3, (0, v3)), (4, (0, v4))] [(0, x13)] _ H12 _
        exact r_iret dX12_band_46 rfl ⟨rfl, _, rfl, h⟩
      · replace h := h.2 c9
        refine r_iload_n 3 dX12_band_24 rfl rfl ?_
        refine r_if_lt (tgt := 41) dX12_band_25 (by decide) (fun c14 => ?_) (fun c14 => ?_)
        · replace h := h.1 c14
          refine r_aload_n 0 dX12_band_41 rfl rfl ?_
          refine r_iconst dX12_band_42 (by decide) (by decide) ?_
          obtain ⟨h15, h⟩ := h
          obtain ⟨h16, h⟩ := h
          refine r_invV (M := mX12_band) (As := [(0, 2)]) (st := []) (X := v0) (mc := 0) (ms := 0) (fc := 0) (fs := 0) h ok_X12_refuse cls12 im_X12_refuse se_X12_refuse ml_RX12_184 dX12_band_43 rfl h15 h16 (Nat.le_of_ble_eq_true rfl) rfl ?_
          rintro r K1 H17 ⟨rfl, x18, rfl, h⟩ -
          show Fr mX12_band (d + 1) 0 0 none 46 [(0, (2, v0)), (1, (0, v1)), (2, (0, v2)), (3, (0, v3)), (4, (0, v4))] [(0, x18)] _ H17 _
          exact r_iret dX12_band_46 rfl ⟨rfl, _, rfl, h⟩
        · replace h := h.2 c14
          refine r_iload 4 dX12_band_28 rfl ?_
          refine r_bipush dX12_band_30 (by decide) (by decide) ?_
          refine r_icmp_gt (tgt := 41) dX12_band_32 (by decide) (fun c19 => ?_) (fun c19 => ?_)
          · replace h := h.1 c19
            refine r_aload_n 0 dX12_band_41 rfl rfl ?_
            refine r_iconst dX12_band_42 (by decide) (by decide) ?_
            obtain ⟨h20, h⟩ := h
            obtain ⟨h21, h⟩ := h
            refine r_invV (M := mX12_band) (As := [(0, 2)]) (st := []) (X := v0) (mc := 0) (ms := 0) (fc := 0) (fs := 0) h ok_X12_refuse cls12 im_X12_refuse se_X12_refuse ml_RX12_184 dX12_band_43 rfl h20 h21 (Nat.le_of_ble_eq_true rfl) rfl ?_
            rintro r K1 H22 ⟨rfl, x23, rfl, h⟩ -
            show Fr mX12_band (d + 1) 0 0 none 46 [(0, (2, v0)), (1, (0, v1)), (2, (0, v2)), (3, (0, v3)), (4, (0, v4))] [(0, x23)] _ H22 _
            exact r_iret dX12_band_46 rfl ⟨rfl, _, rfl, h⟩
          · replace h := h.2 c19
            refine r_iload_n 3 dX12_band_35 rfl rfl ?_
            refine r_iload 4 dX12_band_36 rfl ?_
            refine r_icmp_lt (tgt := 47) dX12_band_38 (by decide) (fun c24 => ?_) (fun c24 => ?_)
            · replace h := h.1 c24
              refine r_aload_n 0 dX12_band_47 rfl rfl ?_
              obtain ⟨h25, h⟩ := h
              obtain ⟨h26, h⟩ := h
              refine r_getf cls12 12 dX12_band_48 (by decide) fl_RX12_31 rfl h25 h26 ?_
              refine r_iload_n 1 dX12_band_51 rfl rfl ?_
              obtain ⟨h27, h⟩ := h
              obtain ⟨n28, h⟩ := h
              obtain ⟨h29, h⟩ := h
              obtain ⟨h30, h⟩ := h
              obtain ⟨h31, h⟩ := h
              refine r_iald n28 dX12_band_52 h27 h29 h30 h31 ?_
              refine r_bipush dX12_band_53 (by decide) (by decide) ?_
              refine r_icmp_ne (tgt := 64) dX12_band_55 (by decide) (fun c32 => ?_) (fun c32 => ?_)
              · replace h := h.1 c32
                refine r_iload_n 3 dX12_band_64 rfl rfl ?_
                refine r_istore dX12_band_65 (by decide) rfl ?_
                refine Fr.fewer [1, 2, 3, 4, 5, 0] rfl ?_
                exact h
              · replace h := h.2 c32
                refine r_aload_n 0 dX12_band_58 rfl rfl ?_
                refine r_iconst dX12_band_59 (by decide) (by decide) ?_
                refine r_invV (M := mX12_band) (As := [(0, 3)]) (st := []) (X := v0) (mc := 0) (ms := 0) (fc := 0) (fs := 0) h ok_X12_refuse cls12 im_X12_refuse se_X12_refuse ml_RX12_184 dX12_band_60 rfl h25 h26 (Nat.le_of_ble_eq_true rfl) rfl ?_
                rintro r K1 H33 ⟨rfl, x34, rfl, h⟩ -
                show Fr mX12_band (d + 1) 0 0 none 63 [(0, (2, v0)), (1, (0, v1)), (2, (0, v2)), (3, (0, v3)), (4, (0, v4))] [(0, x34)] _ H33 _
                exact r_iret dX12_band_63 rfl ⟨rfl, _, rfl, h⟩
            · replace h := h.2 c24
              refine r_aload_n 0 dX12_band_41 rfl rfl ?_
              refine r_iconst dX12_band_42 (by decide) (by decide) ?_
              obtain ⟨h35, h⟩ := h
              obtain ⟨h36, h⟩ := h
              refine r_invV (M := mX12_band) (As := [(0, 2)]) (st := []) (X := v0) (mc := 0) (ms := 0) (fc := 0) (fs := 0) h ok_X12_refuse cls12 im_X12_refuse se_X12_refuse ml_RX12_184 dX12_band_43 rfl h35 h36 (Nat.le_of_ble_eq_true rfl) rfl ?_
              rintro r K1 H37 ⟨rfl, x38, rfl, h⟩ -
              show Fr mX12_band (d + 1) 0 0 none 46 [(0, (2, v0)), (1, (0, v1)), (2, (0, v2)), (3, (0, v3)), (4, (0, v4))] [(0, x38)] _ H37 _
              exact r_iret dX12_band_46 rfl ⟨rfl, _, rfl, h⟩
  · replace h := h.2 c3
    refine r_aload_n 0 dX12_band_7 rfl rfl ?_
    refine r_iconst dX12_band_8 (by decide) (by decide) ?_
    obtain ⟨h39, h⟩ := h
    obtain ⟨h40, h⟩ := h
    refine r_invV (M := mX12_band) (As := [(0, 1)]) (st := []) (X := v0) (mc := 0) (ms := 0) (fc := 0) (fs := 0) h ok_X12_refuse cls12 im_X12_refuse se_X12_refuse ml_RX12_184 dX12_band_9 rfl h39 h40 (Nat.le_of_ble_eq_true rfl) rfl ?_
    rintro r K1 H41 ⟨rfl, x42, rfl, h⟩ -
    show Fr mX12_band (d + 1) 0 0 none 12 [(0, (2, v0)), (1, (0, v1)), (2, (0, v2)), (3, (0, v3)), (4, (0, v4))] [(0, x42)] _ H41 _
    exact r_iret dX12_band_12 rfl ⟨rfl, _, rfl, h⟩
set_option maxHeartbeats 4000000 in
set_option maxRecDepth 20000 in
theorem bX12_band_67 {d : Nat} {K : Shp} {H : Mem} {q : Int → Mem → Prop} {v0 v1 v2 v3 v4 v5 : Int} (h : ((¬ (v5 : Int) < v4 → ((0 : Int) ≤ v0) ∧ (K[(v0 : Int).toNat]? = some (12, 51)) ∧ ((0 : Int) ≤ (H (v0 : Int).toNat 14)) ∧ ∃ n5 : Nat, (K[((H (v0 : Int).toNat 14) : Int).toNat]? = some (20, n5)) ∧ ((0 : Int) ≤ v1) ∧ ((v1 : Int) < n5) ∧ (inI (v4 - v3)) ∧ (inI (v2 * (v4 - v3))) ∧ (inI ((H ((H (v0 : Int).toNat 14) : Int).toNat (v1 : Int).toNat) + (v2 * (v4 - v3)))) ∧ ∀ H12 : Mem, H12 = upA H ((H (v0 : Int).toNat 14) : Int).toNat (up1 (H ((H (v0 : Int).toNat 14) : Int).toNat) (v1 : Int).toNat ((H ((H (v0 : Int).toNat 14) : Int).toNat (v1 : Int).toNat) + (v2 * (v4 - v3)))) → ((0 : Int) ≤ (H12 (v0 : Int).toNat 12)) ∧ ∃ n14 : Nat, (K[((H12 (v0 : Int).toNat 12) : Int).toNat]? = some (20, n14)) ∧ ((v1 : Int) < n14) ∧ (inI ((H12 ((H12 (v0 : Int).toNat 12) : Int).toNat (v1 : Int).toNat) + 1)) ∧ ∀ H18 : Mem, H18 = upA H12 ((H12 (v0 : Int).toNat 12) : Int).toNat (up1 (H12 ((H12 (v0 : Int).toNat 12) : Int).toNat) (v1 : Int).toNat ((H12 ((H12 (v0 : Int).toNat 12) : Int).toNat (v1 : Int).toNat) + 1)) → ∀ H19 : Mem, H19 = upA H18 (v0 : Int).toNat (up1 (H18 (v0 : Int).toNat) 0 0) → ((0 : Int) ≤ (H19 (v0 : Int).toNat 12)) ∧ ∃ n21 : Nat, (K[((H19 (v0 : Int).toNat 12) : Int).toNat]? = some (20, n21)) ∧ ((v1 : Int) < n21) ∧ (inI ((H19 ((H19 (v0 : Int).toNat 12) : Int).toNat (v1 : Int).toNat) - 1)) ∧ q ((H19 ((H19 (v0 : Int).toNat 12) : Int).toNat (v1 : Int).toNat) - 1) H19) ∧ ((v5 : Int) < v4 → ((0 : Int) ≤ v0) ∧ (K[(v0 : Int).toNat]? = some (12, 51)) ∧ (inI (100 * v1)) ∧ (inI ((100 * v1) + v5)) ∧ ((0 : Int) ≤ (H (v0 : Int).toNat 15)) ∧ ∃ n30 : Nat, (K[((H (v0 : Int).toNat 15) : Int).toNat]? = some (20, n30)) ∧ ((0 : Int) ≤ ((100 * v1) + v5)) ∧ ((((100 * v1) + v5) : Int) < n30) ∧ (inI ((H ((H (v0 : Int).toNat 15) : Int).toNat (((100 * v1) + v5) : Int).toNat) + v2)) ∧ ∀ H35 : Mem, H35 = upA H ((H (v0 : Int).toNat 15) : Int).toNat (up1 (H ((H (v0 : Int).toNat 15) : Int).toNat) (((100 * v1) + v5) : Int).toNat ((H ((H (v0 : Int).toNat 15) : Int).toNat (((100 * v1) + v5) : Int).toNat) + v2)) → (inI (v5 + 1)) ∧ FX12_band_67 d K H35 q (v0) (v1) (v2) (v3) (v4) ((v5 + 1))))) : FX12_band_67 d K H q (v0) (v1) (v2) (v3) (v4) (v5) := by
  unfold FX12_band_67
  refine r_iload 5 dX12_band_67 rfl ?_
  refine r_iload 4 dX12_band_69 rfl ?_
  refine r_icmp_ge (tgt := 96) dX12_band_71 (by decide) (fun c1 => ?_) (fun c1 => ?_)
  · replace h := h.1 c1
    refine r_aload_n 0 dX12_band_96 rfl rfl ?_
    obtain ⟨h2, h⟩ := h
    obtain ⟨h3, h⟩ := h
    refine r_getf cls12 14 dX12_band_97 (by decide) fl_RX12_37 rfl h2 h3 ?_
    refine r_iload_n 1 dX12_band_100 rfl rfl ?_
    refine r_dup2 dX12_band_101 (show (0 : Nat) ≠ 1 by decide) (show (2 : Nat) ≠ 1 by decide) ?_
    obtain ⟨h4, h⟩ := h
    obtain ⟨n5, h⟩ := h
    obtain ⟨h6, h⟩ := h
    obtain ⟨h7, h⟩ := h
    obtain ⟨h8, h⟩ := h
    refine r_iald n5 dX12_band_102 h4 h6 h7 h8 ?_
    refine r_iload_n 2 dX12_band_103 rfl rfl ?_
    refine r_iload 4 dX12_band_104 rfl ?_
    refine r_iload_n 3 dX12_band_106 rfl rfl ?_
    obtain ⟨h9, h⟩ := h
    refine r_isub dX12_band_107 h9 ?_
    obtain ⟨h10, h⟩ := h
    refine r_imul dX12_band_108 h10 ?_
    obtain ⟨h11, h⟩ := h
    refine r_iadd dX12_band_109 h11 ?_
    refine r_iast n5 dX12_band_110 h4 h6 h7 h8 ?_
    replace h := h _ rfl
    generalize upA H ((H (v0 : Int).toNat 14) : Int).toNat (up1 (H ((H (v0 : Int).toNat 14) : Int).toNat) (v1 : Int).toNat ((H ((H (v0 : Int).toNat 14) : Int).toNat (v1 : Int).toNat) + (v2 * (v4 - v3)))) = H12 at h ⊢
    refine r_aload_n 0 dX12_band_111 rfl rfl ?_
    refine r_getf cls12 12 dX12_band_112 (by decide) fl_RX12_31 rfl h2 h3 ?_
    refine r_iload_n 1 dX12_band_115 rfl rfl ?_
    refine r_dup2 dX12_band_116 (show (0 : Nat) ≠ 1 by decide) (show (2 : Nat) ≠ 1 by decide) ?_
    obtain ⟨h13, h⟩ := h
    obtain ⟨n14, h⟩ := h
    obtain ⟨h15, h⟩ := h
    obtain ⟨h16, h⟩ := h
    refine r_iald n14 dX12_band_117 h13 h15 h7 h16 ?_
    refine r_iconst dX12_band_118 (by decide) (by decide) ?_
    obtain ⟨h17, h⟩ := h
    refine r_iadd dX12_band_119 h17 ?_
    refine r_iast n14 dX12_band_120 h13 h15 h7 h16 ?_
    replace h := h _ rfl
    generalize upA H12 ((H12 (v0 : Int).toNat 12) : Int).toNat (up1 (H12 ((H12 (v0 : Int).toNat 12) : Int).toNat) (v1 : Int).toNat ((H12 ((H12 (v0 : Int).toNat 12) : Int).toNat (v1 : Int).toNat) + 1)) = H18 at h ⊢
    refine r_aload_n 0 dX12_band_121 rfl rfl ?_
    refine r_iconst dX12_band_122 (by decide) (by decide) ?_
    refine r_putf cls12 0 dX12_band_123 (by decide) rfl fl_RX12_89 rfl h2 h3 (fun o => o) ?_
    replace h := h _ rfl
    generalize upA H18 (v0 : Int).toNat (up1 (H18 (v0 : Int).toNat) 0 0) = H19 at h ⊢
    refine r_aload_n 0 dX12_band_126 rfl rfl ?_
    refine r_getf cls12 12 dX12_band_127 (by decide) fl_RX12_31 rfl h2 h3 ?_
    refine r_iload_n 1 dX12_band_130 rfl rfl ?_
    obtain ⟨h20, h⟩ := h
    obtain ⟨n21, h⟩ := h
    obtain ⟨h22, h⟩ := h
    obtain ⟨h23, h⟩ := h
    refine r_iald n21 dX12_band_131 h20 h22 h7 h23 ?_
    refine r_iconst dX12_band_132 (by decide) (by decide) ?_
    obtain ⟨h24, h⟩ := h
    refine r_isub dX12_band_133 h24 ?_
    exact r_iret dX12_band_134 rfl ⟨rfl, _, rfl, h⟩
  · replace h := h.2 c1
    refine r_aload_n 0 dX12_band_74 rfl rfl ?_
    obtain ⟨h25, h⟩ := h
    obtain ⟨h26, h⟩ := h
    refine r_getf cls12 15 dX12_band_75 (by decide) fl_RX12_40 rfl h25 h26 ?_
    refine r_bipush dX12_band_78 (by decide) (by decide) ?_
    refine r_iload_n 1 dX12_band_80 rfl rfl ?_
    obtain ⟨h27, h⟩ := h
    refine r_imul dX12_band_81 h27 ?_
    refine r_iload 5 dX12_band_82 rfl ?_
    obtain ⟨h28, h⟩ := h
    refine r_iadd dX12_band_84 h28 ?_
    refine r_dup2 dX12_band_85 (show (0 : Nat) ≠ 1 by decide) (show (2 : Nat) ≠ 1 by decide) ?_
    obtain ⟨h29, h⟩ := h
    obtain ⟨n30, h⟩ := h
    obtain ⟨h31, h⟩ := h
    obtain ⟨h32, h⟩ := h
    obtain ⟨h33, h⟩ := h
    refine r_iald n30 dX12_band_86 h29 h31 h32 h33 ?_
    refine r_iload_n 2 dX12_band_87 rfl rfl ?_
    obtain ⟨h34, h⟩ := h
    refine r_iadd dX12_band_88 h34 ?_
    refine r_iast n30 dX12_band_89 h29 h31 h32 h33 ?_
    replace h := h _ rfl
    generalize upA H ((H (v0 : Int).toNat 15) : Int).toNat (up1 (H ((H (v0 : Int).toNat 15) : Int).toNat) (((100 * v1) + v5) : Int).toNat ((H ((H (v0 : Int).toNat 15) : Int).toNat (((100 * v1) + v5) : Int).toNat) + v2)) = H35 at h ⊢
    obtain ⟨h36, h⟩ := h
    refine r_iinc 5 dX12_band_90 (by decide) rfl h36 rfl ?_
    refine r_goto (tgt := 67) dX12_band_93 (by decide) ?_
    refine Fr.fewer [1, 2, 3, 4, 5, 0] rfl ?_
    exact h
set_option maxHeartbeats 4000000 in
set_option maxRecDepth 20000 in
theorem eX12_band {d : Nat} {K : Shp} {H : Mem} {q : Int → Mem → Prop} {v0 v1 v2 v3 v4 : Int} (h : inI v1 → inI v2 → inI v3 → inI v4 → Rng K H → FX12_band_0 d K H q v0 v1 v2 v3 v4) : Ci mX12_band (d + 1) [(2, v0), (0, v1), (0, v2), (0, v3), (0, v4)] K H q := Call.of rfl (Nat.le_of_ble_eq_true rfl) (fun o r => h (o (0, v1) (by simp)) (o (0, v2) (by simp)) (o (0, v3) (by simp)) (o (0, v4) (by simp)) r)
