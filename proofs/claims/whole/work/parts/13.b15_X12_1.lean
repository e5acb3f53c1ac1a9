/-! printed by gen/emit.py: what a walk from each cut point asks -/
def FX12_divide_0 (d : Nat) (K : Shp) (H : Mem) (q : Mem → Prop) (v0 : Int) (v1 : Int) (v2 : Int) : Prop := Fr mX12_divide (d + 1) 0 0 none 0 [(0, (2, v0)), (1, (0, v1)), (2, (0, v2))] [] K H (qv K q)
def FX12_divide_16 (d : Nat) (K : Shp) (H : Mem) (q : Mem → Prop) (v0 : Int) (v1 : Int) (v2 : Int) (v3 : Int) (v4 : Int) (v5 : Int) : Prop := Fr mX12_divide (d + 1) 0 0 none 16 [(0, (2, v0)), (1, (0, v1)), (2, (0, v2)), (3, (0, v3)), (4, (0, v4)), (5, (0, v5))] [] K H (qv K q)
def FX12_divide_88 (d : Nat) (K : Shp) (H : Mem) (q : Mem → Prop) (v0 : Int) (v2 : Int) (v3 : Int) (v4 : Int) (v5 : Int) : Prop := Fr mX12_divide (d + 1) 0 0 none 88 [(0, (2, v0)), (2, (0, v2)), (3, (0, v3)), (4, (0, v4)), (5, (0, v5))] [] K H (qv K q)
def FX12_divide_114 (d : Nat) (K : Shp) (H : Mem) (q : Mem → Prop) (v0 : Int) (v2 : Int) (v3 : Int) (v4 : Int) (v5 : Int) (v6 : Int) : Prop := Fr mX12_divide (d + 1) 0 0 none 114 [(0, (2, v0)), (2, (0, v2)), (3, (0, v3)), (4, (0, v4)), (5, (0, v5)), (6, (0, v6))] [] K H (qv K q)
def FX12_divide_215 (d : Nat) (K : Shp) (H : Mem) (q : Mem → Prop) (v0 : Int) (v3 : Int) (v4 : Int) (v5 : Int) (v6 : Int) : Prop := Fr mX12_divide (d + 1) 0 0 none 215 [(0, (2, v0)), (3, (0, v3)), (4, (0, v4)), (5, (0, v5)), (6, (0, v6))] [] K H (qv K q)
def FX12_divide_292 (d : Nat) (K : Shp) (H : Mem) (q : Mem → Prop) (v0 : Int) (v4 : Int) (v5 : Int) (v6 : Int) : Prop := Fr mX12_divide (d + 1) 0 0 none 292 [(0, (2, v0)), (4, (0, v4)), (5, (0, v5)), (6, (0, v6))] [] K H (qv K q)
def FX12_divide_318 (d : Nat) (K : Shp) (H : Mem) (q : Mem → Prop) (v0 : Int) (v4 : Int) (v5 : Int) : Prop := Fr mX12_divide (d + 1) 0 0 none 318 [(0, (2, v0)), (4, (0, v4)), (5, (0, v5))] [] K H (qv K q)
def FX12_divide_355 (d : Nat) (K : Shp) (H : Mem) (q : Mem → Prop) (v0 : Int) (v4 : Int) (v5 : Int) (v6 : Int) : Prop := Fr mX12_divide (d + 1) 0 0 none 355 [(0, (2, v0)), (4, (0, v4)), (5, (0, v5)), (6, (0, v6))] [] K H (qv K q)
def FX12_divide_428 (d : Nat) (K : Shp) (H : Mem) (q : Mem → Prop) (v0 : Int) : Prop := Fr mX12_divide (d + 1) 0 0 none 428 [(0, (2, v0))] [] K H (qv K q)
set_option maxRecDepth 20000 in
theorem bX12_divide_0 {d : Nat} {K : Shp} {H : Mem} {q : Mem → Prop} {v0 v1 v2 : Int} (h : ((0 : Int) ≤ v0) ∧ (K[(v0 : Int).toNat]? = some (12, 51)) ∧ Ci mX12_places d [(2, v0), (0, v1)] K H (fun x4 H3 => Ci mX12_places d [(2, v0), (0, v2)] K H3 (fun x6 H5 => FX12_divide_16 d K H5 q (v0) (v1) (v2) (x4) (x6) (0)))) : FX12_divide_0 d K H q (v0) (v1) (v2) := by
  unfold FX12_divide_0
  refine r_aload_n 0 dX12_divide_0 rfl rfl ?_
  refine r_iload_n 1 dX12_divide_1 rfl rfl ?_
  obtain ⟨h1, h⟩ := h
  obtain ⟨h2, h⟩ := h
  refine r_invV (M := mX12_divide) (As := [(0, v1)]) (st := []) (X := v0) (mc := 0) (ms := 0) (fc := 0) (fs := 0) h ok_X12_places cls12 im_X12_places se_X12_places ml_RX12_106 dX12_divide_2 rfl h1 h2 (Nat.le_of_ble_eq_true rfl) rfl ?_
  rintro r K1 H3 ⟨rfl, x4, rfl, h⟩ -
  show Fr mX12_divide (d + 1) 0 0 none 5 [(0, (2, v0)), (1, (0, v1)), (2, (0, v2))] [(0, x4)] _ H3 _
  refine r_istore_n dX12_divide_5 rfl (by decide) rfl ?_
  refine r_aload_n 1 dX12_divide_6 rfl rfl ?_
  refine r_iload_n 3 dX12_divide_7 rfl rfl ?_
  refine r_invV (M := mX12_divide) (As := [(0, v2)]) (st := []) (X := v0) (mc := 0) (ms := 0) (fc := 0) (fs := 0) h ok_X12_places cls12 im_X12_places se_X12_places ml_RX12_106 dX12_divide_8 rfl h1 h2 (Nat.le_of_ble_eq_true rfl) rfl ?_
  rintro r K1 H5 ⟨rfl, x6, rfl, h⟩ -
  show Fr mX12_divide (d + 1) 0 0 none 11 [(3, (0, x4)), (0, (2, v0)), (1, (0, v1)), (2, (0, v2))] [(0, x6)] _ H5 _
  refine r_istore dX12_divide_11 (by decide) rfl ?_
  refine r_iconst dX12_divide_13 (by decide) (by decide) ?_
  refine r_istore dX12_divide_14 (by decide) rfl ?_
  refine Fr.fewer [3, 4, 5, 2, 1, 0] rfl ?_
  exact h
set_option maxRecDepth 20000 in
theorem bX12_divide_16 {d : Nat} {K : Shp} {H : Mem} {q : Mem → Prop} {v0 v1 v2 v3 v4 v5 : Int} (h : ((¬ (v5 : Int) < v3 → ((0 : Int) ≤ v0) ∧ (K[(v0 : Int).toNat]? = some (12, 51)) ∧ ∀ H4 : Mem, H4 = upA H (v0 : Int).toNat (up1 (H (v0 : Int).toNat) 6 v3) → ∀ H5 : Mem, H5 = upA H4 (v0 : Int).toNat (up1 (H4 (v0 : Int).toNat) 7 0) → Ci mX12_compareSizes d [(2, v0), (0, v1), (0, v2)] K H5 (fun x7 H6 => ((¬ (x7 : Int) < 0 → ((¬ (v4 : Int) = 1 → FX12_divide_88 d K H6 q (v0) (v2) (v3) (v4) (0)) ∧ ((v4 : Int) = 1 → (inI (v2 + 1)) ∧ ((0 : Int) ≤ (H6 (v0 : Int).toNat 1)) ∧ ∃ n12 : Nat, (K[((H6 (v0 : Int).toNat 1) : Int).toNat]? = some (20, n12)) ∧ ((0 : Int) ≤ (v2 + 1)) ∧ (((v2 + 1) : Int) < n12) ∧ Cv mX12_divideShort d [(2, v0), (0, (H6 ((H6 (v0 : Int).toNat 1) : Int).toNat ((v2 + 1) : Int).toNat))] K H6 (fun H16 => q H16)))) ∧ ((x7 : Int) < 0 → q H6)))) ∧ ((v5 : Int) < v3 → ((0 : Int) ≤ v0) ∧ (K[(v0 : Int).toNat]? = some (12, 51)) ∧ (inI (v1 + 1)) ∧ (inI ((v1 + 1) + v5)) ∧ ((0 : Int) ≤ (H (v0 : Int).toNat 1)) ∧ ∃ n23 : Nat, (K[((H (v0 : Int).toNat 1) : Int).toNat]? = some (20, n23)) ∧ ((0 : Int) ≤ ((v1 + 1) + v5)) ∧ ((((v1 + 1) + v5) : Int) < n23) ∧ ((0 : Int) ≤ (H (v0 : Int).toNat 3)) ∧ ∃ n28 : Nat, (K[((H (v0 : Int).toNat 3) : Int).toNat]? = some (20, n28)) ∧ ((0 : Int) ≤ v5) ∧ ((v5 : Int) < n28) ∧ ∀ H32 : Mem, H32 = upA H ((H (v0 : Int).toNat 3) : Int).toNat (up1 (H ((H (v0 : Int).toNat 3) : Int).toNat) (v5 : Int).toNat (H ((H (v0 : Int).toNat 1) : Int).toNat (((v1 + 1) + v5) : Int).toNat)) → (inI (v5 + 1)) ∧ FX12_divide_16 d K H32 q (v0) (v1) (v2) (v3) (v4) ((v5 + 1))))) : FX12_divide_16 d K H q (v0) (v1) (v2) (v3) (v4) (v5) := by
  unfold FX12_divide_16
  refine r_iload 5 dX12_divide_16 rfl ?_
  refine r_iload_n 3 dX12_divide_18 rfl rfl ?_
  refine r_icmp_ge (tgt := 46) dX12_divide_19 (by decide) (fun c1 => ?_) (fun c1 => ?_)
  · replace h := h.1 c1
    refine r_aload_n 0 dX12_divide_46 rfl rfl ?_
    refine r_iload_n 3 dX12_divide_47 rfl rfl ?_
    obtain ⟨h2, h⟩ := h
    obtain ⟨h3, h⟩ := h
    refine r_putf cls12 6 dX12_divide_48 (by decide) rfl fl_RX12_135 rfl h2 h3 (fun o => o) ?_
    replace h := h _ rfl
    generalize upA H (v0 : Int).toNat (up1 (H (v0 : Int).toNat) 6 v3) = H4 at h ⊢
    refine r_aload_n 0 dX12_divide_51 rfl rfl ?_
    refine r_iconst dX12_divide_52 (by decide) (by decide) ?_
    refine r_putf cls12 7 dX12_divide_53 (by decide) rfl fl_RX12_138 rfl h2 h3 (fun o => o) ?_
    replace h := h _ rfl
    generalize upA H4 (v0 : Int).toNat (up1 (H4 (v0 : Int).toNat) 7 0) = H5 at h ⊢
    refine r_aload_n 0 dX12_divide_56 rfl rfl ?_
    refine r_iload_n 1 dX12_divide_57 rfl rfl ?_
    refine r_iload_n 2 dX12_divide_58 rfl rfl ?_
    refine r_invV (M := mX12_divide) (As := [(0, v1), (0, v2)]) (st := []) (X := v0) (mc := 0) (ms := 0) (fc := 0) (fs := 0) h ok_X12_compareSizes cls12 im_X12_compareSizes se_X12_compareSizes ml_RX12_122 dX12_divide_59 rfl h2 h3 (Nat.le_of_ble_eq_true rfl) rfl ?_
    rintro r K1 H6 ⟨rfl, x7, rfl, h⟩ -
    show Fr mX12_divide (d + 1) 0 0 none 62 [(0, (2, v0)), (1, (0, v1)), (2, (0, v2)), (3, (0, v3)), (4, (0, v4)), (5, (0, v5))] [(0, x7)] _ H6 _
    refine r_if_ge (tgt := 66) dX12_divide_62 (by decide) (fun c8 => ?_) (fun c8 => ?_)
    · replace h := h.1 c8
      refine r_iload 4 dX12_divide_66 rfl ?_
      refine r_iconst dX12_divide_68 (by decide) (by decide) ?_
      refine r_icmp_ne (tgt := 85) dX12_divide_69 (by decide) (fun c9 => ?_) (fun c9 => ?_)
      · replace h := h.1 c9
        refine r_iconst dX12_divide_85 (by decide) (by decide) ?_
        refine r_istore dX12_divide_86 (by decide) rfl ?_
        refine Fr.fewer [1, 3, 4, 5, 0] rfl ?_
        exact h
      · replace h := h.2 c9
        refine r_aload_n 0 dX12_divide_72 rfl rfl ?_
        refine r_aload_n 0 dX12_divide_73 rfl rfl ?_
        refine r_getf cls12 1 dX12_divide_74 (by decide) fl_RX12_7 rfl h2 h3 ?_
        refine r_iload_n 2 dX12_divide_77 rfl rfl ?_
        refine r_iconst dX12_divide_78 (by decide) (by decide) ?_
        obtain ⟨h10, h⟩ := h
        refine r_iadd dX12_divide_79 h10 ?_
        obtain ⟨h11, h⟩ := h
        obtain ⟨n12, h⟩ := h
        obtain ⟨h13, h⟩ := h
        obtain ⟨h14, h⟩ := h
        obtain ⟨h15, h⟩ := h
        refine r_iald n12 dX12_divide_80 h11 h13 h14 h15 ?_
        refine r_invV (M := mX12_divide) (As := [(0, (H6 ((H6 (v0 : Int).toNat 1) : Int).toNat ((v2 + 1) : Int).toNat))]) (st := []) (X := v0) (mc := 0) (ms := 0) (fc := 0) (fs := 0) h ok_X12_divideShort cls12 im_X12_divideShort se_X12_divideShort ml_RX12_141 dX12_divide_81 rfl h2 h3 (Nat.le_of_ble_eq_true rfl) rfl ?_
        rintro r K1 H16 ⟨rfl, rfl, h⟩ -
        show Fr mX12_divide (d + 1) 0 0 none 84 [(0, (2, v0)), (1, (0, v1)), (2, (0, v2)), (3, (0, v3)), (4, (0, v4)), (5, (0, v5))] [] _ H16 _
        exact r_vret dX12_divide_84 rfl ⟨rfl, rfl, h⟩
    · replace h := h.2 c8
      exact r_vret dX12_divide_65 rfl ⟨rfl, rfl, h⟩
  · replace h := h.2 c1
    refine r_aload_n 0 dX12_divide_22 rfl rfl ?_
    obtain ⟨h18, h⟩ := h
    obtain ⟨h19, h⟩ := h
    refine r_getf cls12 3 dX12_divide_23 (by decide) fl_RX12_13 rfl h18 h19 ?_
    refine r_iload 5 dX12_divide_26 rfl ?_
    refine r_aload_n 0 dX12_divide_28 rfl rfl ?_
    refine r_getf cls12 1 dX12_divide_29 (by decide) fl_RX12_7 rfl h18 h19 ?_
    refine r_iload_n 1 dX12_divide_32 rfl rfl ?_
    refine r_iconst dX12_divide_33 (by decide) (by decide) ?_
    obtain ⟨h20, h⟩ := h
    refine r_iadd dX12_divide_34 h20 ?_
    refine r_iload 5 dX12_divide_35 rfl ?_
    obtain ⟨h21, h⟩ := h
    refine r_iadd dX12_divide_37 h21 ?_
    obtain ⟨h22, h⟩ := h
    obtain ⟨n23, h⟩ := h
    obtain ⟨h24, h⟩ := h
    obtain ⟨h25, h⟩ := h
    obtain ⟨h26, h⟩ := h
    refine r_iald n23 dX12_divide_38 h22 h24 h25 h26 ?_
    obtain ⟨h27, h⟩ := h
    obtain ⟨n28, h⟩ := h
    obtain ⟨h29, h⟩ := h
    obtain ⟨h30, h⟩ := h
    obtain ⟨h31, h⟩ := h
    refine r_iast n28 dX12_divide_39 h27 h29 h30 h31 ?_
    replace h := h _ rfl
    generalize upA H ((H (v0 : Int).toNat 3) : Int).toNat (up1 (H ((H (v0 : Int).toNat 3) : Int).toNat) (v5 : Int).toNat (H ((H (v0 : Int).toNat 1) : Int).toNat (((v1 + 1) + v5) : Int).toNat)) = H32 at h ⊢
    obtain ⟨h33, h⟩ := h
    refine r_iinc 5 dX12_divide_40 (by decide) rfl h33 rfl ?_
    refine r_goto (tgt := 16) dX12_divide_43 (by decide) ?_
    refine Fr.fewer [1, 2, 3, 4, 5, 0] rfl ?_
    exact h
set_option maxRecDepth 20000 in
theorem bX12_divide_88 {d : Nat} {K : Shp} {H : Mem} {q : Mem → Prop} {v0 v2 v3 v4 v5 : Int} (h : ((0 : Int) ≤ v0) ∧ (K[(v0 : Int).toNat]? = some (12, 51)) ∧ (inI (v2 + v4)) ∧ ((0 : Int) ≤ (H (v0 : Int).toNat 1)) ∧ ∃ n5 : Nat, (K[((H (v0 : Int).toNat 1) : Int).toNat]? = some (20, n5)) ∧ ((0 : Int) ≤ (v2 + v4)) ∧ (((v2 + v4) : Int) < n5) ∧ ((0 : Int) ≤ v5) ∧ ((v5 : Int) < 32) ∧ ((¬ ((((H ((H (v0 : Int).toNat 1) : Int).toNat ((v2 + v4) : Int).toNat) * (2 ^ (v5 : Int).toNat : Nat)).bmod 4294967296) : Int) < 536870912 → FX12_divide_114 d K H q (v0) (v2) (v3) (v4) (v5) (0)) ∧ (((((H ((H (v0 : Int).toNat 1) : Int).toNat ((v2 + v4) : Int).toNat) * (2 ^ (v5 : Int).toNat : Nat)).bmod 4294967296) : Int) < 536870912 → (inI (v5 + 1)) ∧ FX12_divide_88 d K H q (v0) (v2) (v3) (v4) ((v5 + 1))))) : FX12_divide_88 d K H q (v0) (v2) (v3) (v4) (v5) := by
  unfold FX12_divide_88
  refine r_aload_n 0 dX12_divide_88 rfl rfl ?_
  obtain ⟨h1, h⟩ := h
  obtain ⟨h2, h⟩ := h
  refine r_getf cls12 1 dX12_divide_89 (by decide) fl_RX12_7 rfl h1 h2 ?_
  refine r_iload_n 1 dX12_divide_92 rfl rfl ?_
  refine r_iload 3 dX12_divide_93 rfl ?_
  obtain ⟨h3, h⟩ := h
  refine r_iadd dX12_divide_95 h3 ?_
  obtain ⟨h4, h⟩ := h
  obtain ⟨n5, h⟩ := h
  obtain ⟨h6, h⟩ := h
  obtain ⟨h7, h⟩ := h
  obtain ⟨h8, h⟩ := h
  refine r_iald n5 dX12_divide_96 h4 h6 h7 h8 ?_
  refine r_iload 4 dX12_divide_97 rfl ?_
  obtain ⟨h9, h⟩ := h
  obtain ⟨h10, h⟩ := h
  refine r_ishl dX12_divide_99 h9 h10 ?_
  refine r_ldc (x := 536870912) dX12_divide_100 kc_RX12_145 (by decide) (by decide) ?_
  refine r_icmp_ge (tgt := 111) dX12_divide_102 (by decide) (fun c11 => ?_) (fun c11 => ?_)
  · replace h := h.1 c11
    refine r_iconst dX12_divide_111 (by decide) (by decide) ?_
    refine r_istore dX12_divide_112 (by decide) rfl ?_
    refine Fr.fewer [1, 2, 3, 4, 5, 0] rfl ?_
    exact h
  · replace h := h.2 c11
    obtain ⟨h12, h⟩ := h
    refine r_iinc 4 dX12_divide_105 (by decide) rfl h12 rfl ?_
    refine r_goto (tgt := 88) dX12_divide_108 (by decide) ?_
    refine Fr.fewer [1, 2, 3, 4, 0] rfl ?_
    exact h
set_option maxRecDepth 20000 in
theorem bX12_divide_114 {d : Nat} {K : Shp} {H : Mem} {q : Mem → Prop} {v0 v2 v3 v4 v5 v6 : Int} (h : ((¬ (v6 : Int) < v4 → ((0 : Int) ≤ v0) ∧ (K[(v0 : Int).toNat]? = some (12, 51)) ∧ (((v5 : Int) ≤ 0 → ((0 : Int) ≤ (H (v0 : Int).toNat 3)) ∧ ∃ n6 : Nat, (K[((H (v0 : Int).toNat 3) : Int).toNat]? = some (20, n6)) ∧ ((0 : Int) ≤ v3) ∧ ((v3 : Int) < n6) ∧ ∀ H10 : Mem, H10 = upA H ((H (v0 : Int).toNat 3) : Int).toNat (up1 (H ((H (v0 : Int).toNat 3) : Int).toNat) (v3 : Int).toNat 0) → (inI (v3 - 1)) ∧ FX12_divide_215 d K H10 q (v0) (v3) (v4) (v5) ((v3 - 1))) ∧ (¬ (v5 : Int) ≤ 0 → (inI (v3 - 1)) ∧ ((0 : Int) ≤ (H (v0 : Int).toNat 3)) ∧ ∃ n14 : Nat, (K[((H (v0 : Int).toNat 3) : Int).toNat]? = some (20, n14)) ∧ ((0 : Int) ≤ (v3 - 1)) ∧ (((v3 - 1) : Int) < n14) ∧ (inI (30 - v5)) ∧ ((0 : Int) ≤ (30 - v5)) ∧ (((30 - v5) : Int) < 32) ∧ ((0 : Int) ≤ v3) ∧ ((v3 : Int) < n14) ∧ ∀ H23 : Mem, H23 = upA H ((H (v0 : Int).toNat 3) : Int).toNat (up1 (H ((H (v0 : Int).toNat 3) : Int).toNat) (v3 : Int).toNat ((H ((H (v0 : Int).toNat 3) : Int).toNat ((v3 - 1) : Int).toNat) / (2 ^ ((30 - v5) : Int).toNat : Nat))) → FX12_divide_215 d K H23 q (v0) (v3) (v4) (v5) ((v3 - 1))))) ∧ ((v6 : Int) < v4 → ((0 : Int) ≤ v0) ∧ (K[(v0 : Int).toNat]? = some (12, 51)) ∧ (inI (v2 + 1)) ∧ (inI ((v2 + 1) + v6)) ∧ ((0 : Int) ≤ (H (v0 : Int).toNat 1)) ∧ ∃ n29 : Nat, (K[((H (v0 : Int).toNat 1) : Int).toNat]? = some (20, n29)) ∧ ((0 : Int) ≤ ((v2 + 1) + v6)) ∧ ((((v2 + 1) + v6) : Int) < n29) ∧ ((0 : Int) ≤ v5) ∧ ((v5 : Int) < 32) ∧ (((v6 : Int) ≤ 0 → (∃ n : Nat, 0 ≤ ((((H ((H (v0 : Int).toNat 1) : Int).toNat (((v2 + 1) + v6) : Int).toNat) * (2 ^ (v5 : Int).toNat : Nat)).bmod 4294967296) % 1073741824) ∧ ((((H ((H (v0 : Int).toNat 1) : Int).toNat (((v2 + 1) + v6) : Int).toNat) * (2 ^ (v5 : Int).toNat : Nat)).bmod 4294967296) % 1073741824) % (2 ^ n : Nat) = 0 ∧ 0 ≤ 0 ∧ 0 < (2 ^ n : Nat) ∧ inI (((((H ((H (v0 : Int).toNat 1) : Int).toNat (((v2 + 1) + v6) : Int).toNat) * (2 ^ (v5 : Int).toNat : Nat)).bmod 4294967296) % 1073741824) + 0)) ∧ ((0 : Int) ≤ (H (v0 : Int).toNat 4)) ∧ ∃ n38 : Nat, (K[((H (v0 : Int).toNat 4) : Int).toNat]? = some (20, n38)) ∧ ((0 : Int) ≤ v6) ∧ ((v6 : Int) < n38) ∧ ∀ H42 : Mem, H42 = upA H ((H (v0 : Int).toNat 4) : Int).toNat (up1 (H ((H (v0 : Int).toNat 4) : Int).toNat) (v6 : Int).toNat (((((H ((H (v0 : Int).toNat 1) : Int).toNat (((v2 + 1) + v6) : Int).toNat) * (2 ^ (v5 : Int).toNat : Nat)).bmod 4294967296) % 1073741824) + 0)) → (inI (v6 + 1)) ∧ FX12_divide_114 d K H42 q (v0) (v2) (v3) (v4) (v5) ((v6 + 1))) ∧ (¬ (v6 : Int) ≤ 0 → (((v5 : Int) ≤ 0 → (∃ n : Nat, 0 ≤ ((((H ((H (v0 : Int).toNat 1) : Int).toNat (((v2 + 1) + v6) : Int).toNat) * (2 ^ (v5 : Int).toNat : Nat)).bmod 4294967296) % 1073741824) ∧ ((((H ((H (v0 : Int).toNat 1) : Int).toNat (((v2 + 1) + v6) : Int).toNat) * (2 ^ (v5 : Int).toNat : Nat)).bmod 4294967296) % 1073741824) % (2 ^ n : Nat) = 0 ∧ 0 ≤ 0 ∧ 0 < (2 ^ n : Nat) ∧ inI (((((H ((H (v0 : Int).toNat 1) : Int).toNat (((v2 + 1) + v6) : Int).toNat) * (2 ^ (v5 : Int).toNat : Nat)).bmod 4294967296) % 1073741824) + 0)) ∧ ((0 : Int) ≤ (H (v0 : Int).toNat 4)) ∧ ∃ n47 : Nat, (K[((H (v0 : Int).toNat 4) : Int).toNat]? = some (20, n47)) ∧ ((0 : Int) ≤ v6) ∧ ((v6 : Int) < n47) ∧ ∀ H51 : Mem, H51 = upA H ((H (v0 : Int).toNat 4) : Int).toNat (up1 (H ((H (v0 : Int).toNat 4) : Int).toNat) (v6 : Int).toNat (((((H ((H (v0 : Int).toNat 1) : Int).toNat (((v2 + 1) + v6) : Int).toNat) * (2 ^ (v5 : Int).toNat : Nat)).bmod 4294967296) % 1073741824) + 0)) → (inI (v6 + 1)) ∧ FX12_divide_114 d K H51 q (v0) (v2) (v3) (v4) (v5) ((v6 + 1))) ∧ (¬ (v5 : Int) ≤ 0 → (inI (v2 + v6)) ∧ ((0 : Int) ≤ (v2 + v6)) ∧ (((v2 + v6) : Int) < n29) ∧ (inI (30 - v5)) ∧ ((0 : Int) ≤ (30 - v5)) ∧ (((30 - v5) : Int) < 32) ∧ (∃ n : Nat, 0 ≤ ((((H ((H (v0 : Int).toNat 1) : Int).toNat (((v2 + 1) + v6) : Int).toNat) * (2 ^ (v5 : Int).toNat : Nat)).bmod 4294967296) % 1073741824) ∧ ((((H ((H (v0 : Int).toNat 1) : Int).toNat (((v2 + 1) + v6) : Int).toNat) * (2 ^ (v5 : Int).toNat : Nat)).bmod 4294967296) % 1073741824) % (2 ^ n : Nat) = 0 ∧ 0 ≤ ((H ((H (v0 : Int).toNat 1) : Int).toNat ((v2 + v6) : Int).toNat) / (2 ^ ((30 - v5) : Int).toNat : Nat)) ∧ ((H ((H (v0 : Int).toNat 1) : Int).toNat ((v2 + v6) : Int).toNat) / (2 ^ ((30 - v5) : Int).toNat : Nat)) < (2 ^ n : Nat) ∧ inI (((((H ((H (v0 : Int).toNat 1) : Int).toNat (((v2 + 1) + v6) : Int).toNat) * (2 ^ (v5 : Int).toNat : Nat)).bmod 4294967296) % 1073741824) + ((H ((H (v0 : Int).toNat 1) : Int).toNat ((v2 + v6) : Int).toNat) / (2 ^ ((30 - v5) : Int).toNat : Nat)))) ∧ ((0 : Int) ≤ (H (v0 : Int).toNat 4)) ∧ ∃ n61 : Nat, (K[((H (v0 : Int).toNat 4) : Int).toNat]? = some (20, n61)) ∧ ((0 : Int) ≤ v6) ∧ ((v6 : Int) < n61) ∧ ∀ H65 : Mem, H65 = upA H ((H (v0 : Int).toNat 4) : Int).toNat (up1 (H ((H (v0 : Int).toNat 4) : Int).toNat) (v6 : Int).toNat (((((H ((H (v0 : Int).toNat 1) : Int).toNat (((v2 + 1) + v6) : Int).toNat) * (2 ^ (v5 : Int).toNat : Nat)).bmod 4294967296) % 1073741824) + ((H ((H (v0 : Int).toNat 1) : Int).toNat ((v2 + v6) : Int).toNat) / (2 ^ ((30 - v5) : Int).toNat : Nat)))) → (inI (v6 + 1)) ∧ FX12_divide_114 d K H65 q (v0) (v2) (v3) (v4) (v5) ((v6 + 1))))))))) : FX12_divide_114 d K H q (v0) (v2) (v3) (v4) (v5) (v6) := by
  unfold FX12_divide_114
  refine r_iload 5 dX12_divide_114 rfl ?_
  refine r_iload 3 dX12_divide_116 rfl ?_
  refine r_icmp_ge (tgt := 181) dX12_divide_118 (by decide) (fun c1 => ?_) (fun c1 => ?_)
  · replace h := h.1 c1
    refine r_aload_n 0 dX12_divide_181 rfl rfl ?_
    obtain ⟨h2, h⟩ := h
    obtain ⟨h3, h⟩ := h
    refine r_getf cls12 3 dX12_divide_182 (by decide) fl_RX12_13 rfl h2 h3 ?_
    refine r_iload_n 2 dX12_divide_185 rfl rfl ?_
    refine r_iload 4 dX12_divide_186 rfl ?_
    refine r_if_le (tgt := 208) dX12_divide_188 (by decide) (fun c4 => ?_) (fun c4 => ?_)
    · replace h := h.1 c4
      refine r_iconst dX12_divide_208 (by decide) (by decide) ?_
      obtain ⟨h5, h⟩ := h
      obtain ⟨n6, h⟩ := h
      obtain ⟨h7, h⟩ := h
      obtain ⟨h8, h⟩ := h
      obtain ⟨h9, h⟩ := h
      refine r_iast n6 dX12_divide_209 h5 h7 h8 h9 ?_
      replace h := h _ rfl
      generalize upA H ((H (v0 : Int).toNat 3) : Int).toNat (up1 (H ((H (v0 : Int).toNat 3) : Int).toNat) (v3 : Int).toNat 0) = H10 at h ⊢
      refine r_iload_n 2 dX12_divide_210 rfl rfl ?_
      refine r_iconst dX12_divide_211 (by decide) (by decide) ?_
      obtain ⟨h11, h⟩ := h
      refine r_isub dX12_divide_212 h11 ?_
      refine r_istore dX12_divide_213 (by decide) rfl ?_
      refine Fr.fewer [1, 3, 4, 5, 0] rfl ?_
      exact h
    · replace h := h.2 c4
      refine r_aload_n 0 dX12_divide_191 rfl rfl ?_
      refine r_getf cls12 3 dX12_divide_192 (by decide) fl_RX12_13 rfl h2 h3 ?_
      refine r_iload_n 2 dX12_divide_195 rfl rfl ?_
      refine r_iconst dX12_divide_196 (by decide) (by decide) ?_
      obtain ⟨h12, h⟩ := h
      refine r_isub dX12_divide_197 h12 ?_
      obtain ⟨h13, h⟩ := h
      obtain ⟨n14, h⟩ := h
      obtain ⟨h15, h⟩ := h
      obtain ⟨h16, h⟩ := h
      obtain ⟨h17, h⟩ := h
      refine r_iald n14 dX12_divide_198 h13 h15 h16 h17 ?_
      refine r_bipush dX12_divide_199 (by decide) (by decide) ?_
      refine r_iload 4 dX12_divide_201 rfl ?_
      obtain ⟨h18, h⟩ := h
      refine r_isub dX12_divide_203 h18 ?_
      obtain ⟨h19, h⟩ := h
      obtain ⟨h20, h⟩ := h
      refine r_ishr dX12_divide_204 h19 h20 ?_
      refine r_goto (tgt := 209) dX12_divide_205 (by decide) ?_
      obtain ⟨h21, h⟩ := h
      obtain ⟨h22, h⟩ := h
      refine r_iast n14 dX12_divide_209 h13 h15 h21 h22 ?_
      replace h := h _ rfl
      generalize upA H ((H (v0 : Int).toNat 3) : Int).toNat (up1 (H ((H (v0 : Int).toNat 3) : Int).toNat) (v3 : Int).toNat ((H ((H (v0 : Int).toNat 3) : Int).toNat ((v3 - 1) : Int).toNat) / (2 ^ ((30 - v5) : Int).toNat : Nat))) = H23 at h ⊢
      refine r_iload_n 2 dX12_divide_210 rfl rfl ?_
      refine r_iconst dX12_divide_211 (by decide) (by decide) ?_
      refine r_isub dX12_divide_212 h12 ?_
      refine r_istore dX12_divide_213 (by decide) rfl ?_
      refine Fr.fewer [1, 3, 4, 5, 0] rfl ?_
      exact h
  · replace h := h.2 c1
    refine r_aload_n 0 dX12_divide_121 rfl rfl ?_
    obtain ⟨h24, h⟩ := h
    obtain ⟨h25, h⟩ := h
    refine r_getf cls12 4 dX12_divide_122 (by decide) fl_RX12_16 rfl h24 h25 ?_
    refine r_iload 5 dX12_divide_125 rfl ?_
    refine r_aload_n 0 dX12_divide_127 rfl rfl ?_
    refine r_getf cls12 1 dX12_divide_128 (by decide) fl_RX12_7 rfl h24 h25 ?_
    refine r_iload_n 1 dX12_divide_131 rfl rfl ?_
    refine r_iconst dX12_divide_132 (by decide) (by decide) ?_
    obtain ⟨h26, h⟩ := h
    refine r_iadd dX12_divide_133 h26 ?_
    refine r_iload 5 dX12_divide_134 rfl ?_
    obtain ⟨h27, h⟩ := h
    refine r_iadd dX12_divide_136 h27 ?_
    obtain ⟨h28, h⟩ := h
    obtain ⟨n29, h⟩ := h
    obtain ⟨h30, h⟩ := h
    obtain ⟨h31, h⟩ := h
    obtain ⟨h32, h⟩ := h
    refine r_iald n29 dX12_divide_137 h28 h30 h31 h32 ?_
    refine r_iload 4 dX12_divide_138 rfl ?_
    obtain ⟨h33, h⟩ := h
    obtain ⟨h34, h⟩ := h
    refine r_ishl dX12_divide_140 h33 h34 ?_
    refine r_ldc (x := 1073741823) dX12_divide_141 kc_RX12_121 (by decide) (by decide) ?_
    refine r_iand30 dX12_divide_143 ?_
    refine r_iload 5 dX12_divide_144 rfl ?_
    refine r_if_le (tgt := 172) dX12_divide_146 (by decide) (fun c35 => ?_) (fun c35 => ?_)
    · replace h := h.1 c35
      refine r_iconst dX12_divide_172 (by decide) (by decide) ?_
      obtain ⟨h36, h⟩ := h
      obtain ⟨nh36, h36a, h36b, h36c, h36d, h36e⟩ := h36
      refine r_ior nh36 dX12_divide_173 h36a h36b h36c h36d h36e ?_
      obtain ⟨h37, h⟩ := h
      obtain ⟨n38, h⟩ := h
      obtain ⟨h39, h⟩ := h
      obtain ⟨h40, h⟩ := h
      obtain ⟨h41, h⟩ := h
      refine r_iast n38 dX12_divide_174 h37 h39 h40 h41 ?_
      replace h := h _ rfl
      generalize upA H ((H (v0 : Int).toNat 4) : Int).toNat (up1 (H ((H (v0 : Int).toNat 4) : Int).toNat) (v6 : Int).toNat (((((H ((H (v0 : Int).toNat 1) : Int).toNat (((v2 + 1) + v6) : Int).toNat) * (2 ^ (v5 : Int).toNat : Nat)).bmod 4294967296) % 1073741824) + 0)) = H42 at h ⊢
      obtain ⟨h43, h⟩ := h
      refine r_iinc 5 dX12_divide_175 (by decide) rfl h43 rfl ?_
      refine r_goto (tgt := 114) dX12_divide_178 (by decide) ?_
      refine Fr.fewer [1, 2, 3, 4, 5, 0] rfl ?_
      exact h
    · replace h := h.2 c35
      refine r_iload 4 dX12_divide_149 rfl ?_
      refine r_if_le (tgt := 172) dX12_divide_151 (by decide) (fun c44 => ?_) (fun c44 => ?_)
      · replace h := h.1 c44
        refine r_iconst dX12_divide_172 (by decide) (by decide) ?_
        obtain ⟨h45, h⟩ := h
        obtain ⟨nh45, h45a, h45b, h45c, h45d, h45e⟩ := h45
        refine r_ior nh45 dX12_divide_173 h45a h45b h45c h45d h45e ?_
        obtain ⟨h46, h⟩ := h
        obtain ⟨n47, h⟩ := h
        obtain ⟨h48, h⟩ := h
        obtain ⟨h49, h⟩ := h
        obtain ⟨h50, h⟩ := h
        refine r_iast n47 dX12_divide_174 h46 h48 h49 h50 ?_
        replace h := h _ rfl
        generalize upA H ((H (v0 : Int).toNat 4) : Int).toNat (up1 (H ((H (v0 : Int).toNat 4) : Int).toNat) (v6 : Int).toNat (((((H ((H (v0 : Int).toNat 1) : Int).toNat (((v2 + 1) + v6) : Int).toNat) * (2 ^ (v5 : Int).toNat : Nat)).bmod 4294967296) % 1073741824) + 0)) = H51 at h ⊢
        obtain ⟨h52, h⟩ := h
        refine r_iinc 5 dX12_divide_175 (by decide) rfl h52 rfl ?_
        refine r_goto (tgt := 114) dX12_divide_178 (by decide) ?_
        refine Fr.fewer [1, 2, 3, 4, 5, 0] rfl ?_
        exact h
      · replace h := h.2 c44
        refine r_aload_n 0 dX12_divide_154 rfl rfl ?_
        refine r_getf cls12 1 dX12_divide_155 (by decide) fl_RX12_7 rfl h24 h25 ?_
        refine r_iload_n 1 dX12_divide_158 rfl rfl ?_
        refine r_iload 5 dX12_divide_159 rfl ?_
        obtain ⟨h53, h⟩ := h
        refine r_iadd dX12_divide_161 h53 ?_
        obtain ⟨h54, h⟩ := h
        obtain ⟨h55, h⟩ := h
        refine r_iald n29 dX12_divide_162 h28 h30 h54 h55 ?_
        refine r_bipush dX12_divide_163 (by decide) (by decide) ?_
        refine r_iload 4 dX12_divide_165 rfl ?_
        obtain ⟨h56, h⟩ := h
        refine r_isub dX12_divide_167 h56 ?_
        obtain ⟨h57, h⟩ := h
        obtain ⟨h58, h⟩ := h
        refine r_ishr dX12_divide_168 h57 h58 ?_
        refine r_goto (tgt := 173) dX12_divide_169 (by decide) ?_
        obtain ⟨h59, h⟩ := h
        obtain ⟨nh59, h59a, h59b, h59c, h59d, h59e⟩ := h59
        refine r_ior nh59 dX12_divide_173 h59a h59b h59c h59d h59e ?_
        obtain ⟨h60, h⟩ := h
        obtain ⟨n61, h⟩ := h
        obtain ⟨h62, h⟩ := h
        obtain ⟨h63, h⟩ := h
        obtain ⟨h64, h⟩ := h
        refine r_iast n61 dX12_divide_174 h60 h62 h63 h64 ?_
        replace h := h _ rfl
        generalize upA H ((H (v0 : Int).toNat 4) : Int).toNat (up1 (H ((H (v0 : Int).toNat 4) : Int).toNat) (v6 : Int).toNat (((((H ((H (v0 : Int).toNat 1) : Int).toNat (((v2 + 1) + v6) : Int).toNat) * (2 ^ (v5 : Int).toNat : Nat)).bmod 4294967296) % 1073741824) + ((H ((H (v0 : Int).toNat 1) : Int).toNat ((v2 + v6) : Int).toNat) / (2 ^ ((30 - v5) : Int).toNat : Nat)))) = H65 at h ⊢
        obtain ⟨h66, h⟩ := h
        refine r_iinc 5 dX12_divide_175 (by decide) rfl h66 rfl ?_
        refine r_goto (tgt := 114) dX12_divide_178 (by decide) ?_
        refine Fr.fewer [1, 2, 3, 4, 5, 0] rfl ?_
        exact h
set_option maxRecDepth 20000 in
theorem bX12_divide_215 {d : Nat} {K : Shp} {H : Mem} {q : Mem → Prop} {v0 v3 v4 v5 v6 : Int} (h : (((v6 : Int) < 0 → (inI (v3 - v4)) ∧ (inI ((v3 - v4) + 1)) ∧ ((0 : Int) ≤ v0) ∧ (K[(v0 : Int).toNat]? = some (12, 51)) ∧ ∀ H6 : Mem, H6 = upA H (v0 : Int).toNat (up1 (H (v0 : Int).toNat) 7 ((v3 - v4) + 1)) → FX12_divide_292 d K H6 q (v0) (v4) (v5) ((v3 - v4))) ∧ (¬ (v6 : Int) < 0 → ((0 : Int) ≤ v0) ∧ (K[(v0 : Int).toNat]? = some (12, 51)) ∧ ((0 : Int) ≤ (H (v0 : Int).toNat 3)) ∧ ∃ n10 : Nat, (K[((H (v0 : Int).toNat 3) : Int).toNat]? = some (20, n10)) ∧ ((0 : Int) ≤ v6) ∧ ((v6 : Int) < n10) ∧ ((0 : Int) ≤ v5) ∧ ((v5 : Int) < 32) ∧ (((v6 : Int) ≤ 0 → (∃ n : Nat, 0 ≤ ((((H ((H (v0 : Int).toNat 3) : Int).toNat (v6 : Int).toNat) * (2 ^ (v5 : Int).toNat : Nat)).bmod 4294967296) % 1073741824) ∧ ((((H ((H (v0 : Int).toNat 3) : Int).toNat (v6 : Int).toNat) * (2 ^ (v5 : Int).toNat : Nat)).bmod 4294967296) % 1073741824) % (2 ^ n : Nat) = 0 ∧ 0 ≤ 0 ∧ 0 < (2 ^ n : Nat) ∧ inI (((((H ((H (v0 : Int).toNat 3) : Int).toNat (v6 : Int).toNat) * (2 ^ (v5 : Int).toNat : Nat)).bmod 4294967296) % 1073741824) + 0)) ∧ ∀ H18 : Mem, H18 = upA H ((H (v0 : Int).toNat 3) : Int).toNat (up1 (H ((H (v0 : Int).toNat 3) : Int).toNat) (v6 : Int).toNat (((((H ((H (v0 : Int).toNat 3) : Int).toNat (v6 : Int).toNat) * (2 ^ (v5 : Int).toNat : Nat)).bmod 4294967296) % 1073741824) + 0)) → (inI (v6 + (-1))) ∧ FX12_divide_215 d K H18 q (v0) (v3) (v4) (v5) ((v6 + (-1)))) ∧ (¬ (v6 : Int) ≤ 0 → (((v5 : Int) ≤ 0 → (∃ n : Nat, 0 ≤ ((((H ((H (v0 : Int).toNat 3) : Int).toNat (v6 : Int).toNat) * (2 ^ (v5 : Int).toNat : Nat)).bmod 4294967296) % 1073741824) ∧ ((((H ((H (v0 : Int).toNat 3) : Int).toNat (v6 : Int).toNat) * (2 ^ (v5 : Int).toNat : Nat)).bmod 4294967296) % 1073741824) % (2 ^ n : Nat) = 0 ∧ 0 ≤ 0 ∧ 0 < (2 ^ n : Nat) ∧ inI (((((H ((H (v0 : Int).toNat 3) : Int).toNat (v6 : Int).toNat) * (2 ^ (v5 : Int).toNat : Nat)).bmod 4294967296) % 1073741824) + 0)) ∧ ∀ H22 : Mem, H22 = upA H ((H (v0 : Int).toNat 3) : Int).toNat (up1 (H ((H (v0 : Int).toNat 3) : Int).toNat) (v6 : Int).toNat (((((H ((H (v0 : Int).toNat 3) : Int).toNat (v6 : Int).toNat) * (2 ^ (v5 : Int).toNat : Nat)).bmod 4294967296) % 1073741824) + 0)) → (inI (v6 + (-1))) ∧ FX12_divide_215 d K H22 q (v0) (v3) (v4) (v5) ((v6 + (-1)))) ∧ (¬ (v5 : Int) ≤ 0 → (inI (v6 - 1)) ∧ ((0 : Int) ≤ (v6 - 1)) ∧ (((v6 - 1) : Int) < n10) ∧ (inI (30 - v5)) ∧ ((0 : Int) ≤ (30 - v5)) ∧ (((30 - v5) : Int) < 32) ∧ (∃ n : Nat, 0 ≤ ((((H ((H (v0 : Int).toNat 3) : Int).toNat (v6 : Int).toNat) * (2 ^ (v5 : Int).toNat : Nat)).bmod 4294967296) % 1073741824) ∧ ((((H ((H (v0 : Int).toNat 3) : Int).toNat (v6 : Int).toNat) * (2 ^ (v5 : Int).toNat : Nat)).bmod 4294967296) % 1073741824) % (2 ^ n : Nat) = 0 ∧ 0 ≤ ((H ((H (v0 : Int).toNat 3) : Int).toNat ((v6 - 1) : Int).toNat) / (2 ^ ((30 - v5) : Int).toNat : Nat)) ∧ ((H ((H (v0 : Int).toNat 3) : Int).toNat ((v6 - 1) : Int).toNat) / (2 ^ ((30 - v5) : Int).toNat : Nat)) < (2 ^ n : Nat) ∧ inI (((((H ((H (v0 : Int).toNat 3) : Int).toNat (v6 : Int).toNat) * (2 ^ (v5 : Int).toNat : Nat)).bmod 4294967296) % 1073741824) + ((H ((H (v0 : Int).toNat 3) : Int).toNat ((v6 - 1) : Int).toNat) / (2 ^ ((30 - v5) : Int).toNat : Nat)))) ∧ ∀ H31 : Mem, H31 = upA H ((H (v0 : Int).toNat 3) : Int).toNat (up1 (H ((H (v0 : Int).toNat 3) : Int).toNat) (v6 : Int).toNat (((((H ((H (v0 : Int).toNat 3) : Int).toNat (v6 : Int).toNat) * (2 ^ (v5 : Int).toNat : Nat)).bmod 4294967296) % 1073741824) + ((H ((H (v0 : Int).toNat 3) : Int).toNat ((v6 - 1) : Int).toNat) / (2 ^ ((30 - v5) : Int).toNat : Nat)))) → (inI (v6 + (-1))) ∧ FX12_divide_215 d K H31 q (v0) (v3) (v4) (v5) ((v6 + (-1)))))))))) : FX12_divide_215 d K H q (v0) (v3) (v4) (v5) (v6) := by
  unfold FX12_divide_215
  refine r_iload 4 dX12_divide_215 rfl ?_
  refine r_if_lt (tgt := 276) dX12_divide_217 (by decide) (fun c1 => ?_) (fun c1 => ?_)
  · replace h := h.1 c1
    refine r_aload_n 0 dX12_divide_276 rfl rfl ?_
    refine r_iload_n 1 dX12_divide_277 rfl rfl ?_
    refine r_iload 2 dX12_divide_278 rfl ?_
    obtain ⟨h2, h⟩ := h
    refine r_isub dX12_divide_280 h2 ?_
    refine r_iconst dX12_divide_281 (by decide) (by decide) ?_
    obtain ⟨h3, h⟩ := h
    refine r_iadd dX12_divide_282 h3 ?_
    obtain ⟨h4, h⟩ := h
    obtain ⟨h5, h⟩ := h
    refine r_putf cls12 7 dX12_divide_283 (by decide) rfl fl_RX12_138 rfl h4 h5 (fun o => o) ?_
    replace h := h _ rfl
    generalize upA H (v0 : Int).toNat (up1 (H (v0 : Int).toNat) 7 ((v3 - v4) + 1)) = H6 at h ⊢
    refine r_iload_n 1 dX12_divide_286 rfl rfl ?_
    refine r_iload 2 dX12_divide_287 rfl ?_
    refine r_isub dX12_divide_289 h2 ?_
    refine r_istore dX12_divide_290 (by decide) rfl ?_
    refine Fr.fewer [1, 3, 4, 0] rfl ?_
    exact h
  · replace h := h.2 c1
    refine r_aload_n 0 dX12_divide_220 rfl rfl ?_
    obtain ⟨h7, h⟩ := h
    obtain ⟨h8, h⟩ := h
    refine r_getf cls12 3 dX12_divide_221 (by decide) fl_RX12_13 rfl h7 h8 ?_
    refine r_iload 4 dX12_divide_224 rfl ?_
    refine r_aload_n 0 dX12_divide_226 rfl rfl ?_
    refine r_getf cls12 3 dX12_divide_227 (by decide) fl_RX12_13 rfl h7 h8 ?_
    refine r_iload 4 dX12_divide_230 rfl ?_
    obtain ⟨h9, h⟩ := h
    obtain ⟨n10, h⟩ := h
    obtain ⟨h11, h⟩ := h
    obtain ⟨h12, h⟩ := h
    obtain ⟨h13, h⟩ := h
    refine r_iald n10 dX12_divide_232 h9 h11 h12 h13 ?_
    refine r_iload 3 dX12_divide_233 rfl ?_
    obtain ⟨h14, h⟩ := h
    obtain ⟨h15, h⟩ := h
    refine r_ishl dX12_divide_235 h14 h15 ?_
    refine r_ldc (x := 1073741823) dX12_divide_236 kc_RX12_121 (by decide) (by decide) ?_
    refine r_iand30 dX12_divide_238 ?_
    refine r_iload 4 dX12_divide_239 rfl ?_
    refine r_if_le (tgt := 267) dX12_divide_241 (by decide) (fun c16 => ?_) (fun c16 => ?_)
    · replace h := h.1 c16
      refine r_iconst dX12_divide_267 (by decide) (by decide) ?_
      obtain ⟨h17, h⟩ := h
      obtain ⟨nh17, h17a, h17b, h17c, h17d, h17e⟩ := h17
      refine r_ior nh17 dX12_divide_268 h17a h17b h17c h17d h17e ?_
      refine r_iast n10 dX12_divide_269 h9 h11 h12 h13 ?_
      replace h := h _ rfl
      generalize upA H ((H (v0 : Int).toNat 3) : Int).toNat (up1 (H ((H (v0 : Int).toNat 3) : Int).toNat) (v6 : Int).toNat (((((H ((H (v0 : Int).toNat 3) : Int).toNat (v6 : Int).toNat) * (2 ^ (v5 : Int).toNat : Nat)).bmod 4294967296) % 1073741824) + 0)) = H18 at h ⊢
      obtain ⟨h19, h⟩ := h
      refine r_iinc 4 dX12_divide_270 (by decide) rfl h19 rfl ?_
      refine r_goto (tgt := 215) dX12_divide_273 (by decide) ?_
      refine Fr.fewer [1, 2, 3, 4, 0] rfl ?_
      exact h
    · replace h := h.2 c16
      refine r_iload 3 dX12_divide_244 rfl ?_
      refine r_if_le (tgt := 267) dX12_divide_246 (by decide) (fun c20 => ?_) (fun c20 => ?_)
      · replace h := h.1 c20
        refine r_iconst dX12_divide_267 (by decide) (by decide) ?_
        obtain ⟨h21, h⟩ := h
        obtain ⟨nh21, h21a, h21b, h21c, h21d, h21e⟩ := h21
        refine r_ior nh21 dX12_divide_268 h21a h21b h21c h21d h21e ?_
        refine r_iast n10 dX12_divide_269 h9 h11 h12 h13 ?_
        replace h := h _ rfl
        generalize upA H ((H (v0 : Int).toNat 3) : Int).toNat (up1 (H ((H (v0 : Int).toNat 3) : Int).toNat) (v6 : Int).toNat (((((H ((H (v0 : Int).toNat 3) : Int).toNat (v6 : Int).toNat) * (2 ^ (v5 : Int).toNat : Nat)).bmod 4294967296) % 1073741824) + 0)) = H22 at h ⊢
        obtain ⟨h23, h⟩ := h
        refine r_iinc 4 dX12_divide_270 (by decide) rfl h23 rfl ?_
        refine r_goto (tgt := 215) dX12_divide_273 (by decide) ?_
        refine Fr.fewer [1, 2, 3, 4, 0] rfl ?_
        exact h
      · replace h := h.2 c20
        refine r_aload_n 0 dX12_divide_249 rfl rfl ?_
        refine r_getf cls12 3 dX12_divide_250 (by decide) fl_RX12_13 rfl h7 h8 ?_
        refine r_iload 4 dX12_divide_253 rfl ?_
        refine r_iconst dX12_divide_255 (by decide) (by decide) ?_
        obtain ⟨h24, h⟩ := h
        refine r_isub dX12_divide_256 h24 ?_
        obtain ⟨h25, h⟩ := h
        obtain ⟨h26, h⟩ := h
        refine r_iald n10 dX12_divide_257 h9 h11 h25 h26 ?_
        refine r_bipush dX12_divide_258 (by decide) (by decide) ?_
        refine r_iload 3 dX12_divide_260 rfl ?_
        obtain ⟨h27, h⟩ := h
        refine r_isub dX12_divide_262 h27 ?_
        obtain ⟨h28, h⟩ := h
        obtain ⟨h29, h⟩ := h
        refine r_ishr dX12_divide_263 h28 h29 ?_
        refine r_goto (tgt := 268) dX12_divide_264 (by decide) ?_
        obtain ⟨h30, h⟩ := h
        obtain ⟨nh30, h30a, h30b, h30c, h30d, h30e⟩ := h30
        refine r_ior nh30 dX12_divide_268 h30a h30b h30c h30d h30e ?_
        refine r_iast n10 dX12_divide_269 h9 h11 h12 h13 ?_
        replace h := h _ rfl
        generalize upA H ((H (v0 : Int).toNat 3) : Int).toNat (up1 (H ((H (v0 : Int).toNat 3) : Int).toNat) (v6 : Int).toNat (((((H ((H (v0 : Int).toNat 3) : Int).toNat (v6 : Int).toNat) * (2 ^ (v5 : Int).toNat : Nat)).bmod 4294967296) % 1073741824) + ((H ((H (v0 : Int).toNat 3) : Int).toNat ((v6 - 1) : Int).toNat) / (2 ^ ((30 - v5) : Int).toNat : Nat)))) = H31 at h ⊢
        obtain ⟨h32, h⟩ := h
        refine r_iinc 4 dX12_divide_270 (by decide) rfl h32 rfl ?_
        refine r_goto (tgt := 215) dX12_divide_273 (by decide) ?_
        refine Fr.fewer [1, 2, 3, 4, 0] rfl ?_
        exact h
set_option maxRecDepth 20000 in
theorem bX12_divide_292 {d : Nat} {K : Shp} {H : Mem} {q : Mem → Prop} {v0 v4 v5 v6 : Int} (h : (((v6 : Int) < 0 → FX12_divide_318 d K H q (v0) (v4) (v5)) ∧ (¬ (v6 : Int) < 0 → ((0 : Int) ≤ v0) ∧ (K[(v0 : Int).toNat]? = some (12, 51)) ∧ Ci mX12_step d [(2, v0), (0, v6), (0, v4)] K H (fun x5 H4 => ((0 : Int) ≤ (H (v0 : Int).toNat 5)) ∧ ∃ n7 : Nat, (K[((H (v0 : Int).toNat 5) : Int).toNat]? = some (20, n7)) ∧ ((0 : Int) ≤ v6) ∧ ((v6 : Int) < n7) ∧ ∀ H11 : Mem, H11 = upA H4 ((H (v0 : Int).toNat 5) : Int).toNat (up1 (H4 ((H (v0 : Int).toNat 5) : Int).toNat) (v6 : Int).toNat x5) → (inI (v6 + (-1))) ∧ FX12_divide_292 d K H11 q (v0) (v4) (v5) ((v6 + (-1))))))) : FX12_divide_292 d K H q (v0) (v4) (v5) (v6) := by
  unfold FX12_divide_292
  refine r_iload 3 dX12_divide_292 rfl ?_
  refine r_if_lt (tgt := 318) dX12_divide_294 (by decide) (fun c1 => ?_) (fun c1 => ?_)
  · replace h := h.1 c1
    refine Fr.fewer [0, 1, 2] rfl ?_
    exact h
  · replace h := h.2 c1
    refine r_aload_n 0 dX12_divide_297 rfl rfl ?_
    obtain ⟨h2, h⟩ := h
    obtain ⟨h3, h⟩ := h
    refine r_getf cls12 5 dX12_divide_298 (by decide) fl_RX12_19 rfl h2 h3 ?_
    refine r_iload 3 dX12_divide_301 rfl ?_
    refine r_aload_n 0 dX12_divide_303 rfl rfl ?_
    refine r_iload 3 dX12_divide_304 rfl ?_
    refine r_iload 1 dX12_divide_306 rfl ?_
    refine r_invV (M := mX12_divide) (As := [(0, v6), (0, v4)]) (st := [(0, v6), (2, (H (v0 : Int).toNat 5))]) (X := v0) (mc := 0) (ms := 0) (fc := 0) (fs := 0) h ok_X12_step cls12 im_X12_step se_X12_step ml_RX12_146 dX12_divide_308 rfl h2 h3 (Nat.le_of_ble_eq_true rfl) rfl ?_
    rintro r K1 H4 ⟨rfl, x5, rfl, h⟩ -
    show Fr mX12_divide (d + 1) 0 0 none 311 [(0, (2, v0)), (4, (0, v4)), (5, (0, v5)), (6, (0, v6))] [(0, x5), (0, v6), (2, (H (v0 : Int).toNat 5))] _ H4 _
    obtain ⟨h6, h⟩ := h
    obtain ⟨n7, h⟩ := h
    obtain ⟨h8, h⟩ := h
    obtain ⟨h9, h⟩ := h
    obtain ⟨h10, h⟩ := h
    refine r_iast n7 dX12_divide_311 h6 h8 h9 h10 ?_
    replace h := h _ rfl
    generalize upA H4 ((H (v0 : Int).toNat 5) : Int).toNat (up1 (H4 ((H (v0 : Int).toNat 5) : Int).toNat) (v6 : Int).toNat x5) = H11 at h ⊢
    obtain ⟨h12, h⟩ := h
    refine r_iinc 3 dX12_divide_312 (by decide) rfl h12 rfl ?_
    refine r_goto (tgt := 292) dX12_divide_315 (by decide) ?_
    refine Fr.fewer [1, 2, 3, 0] rfl ?_
    exact h
set_option maxRecDepth 20000 in
theorem bX12_divide_318 {d : Nat} {K : Shp} {H : Mem} {q : Mem → Prop} {v0 v4 v5 : Int} (h : ((0 : Int) ≤ v0) ∧ (K[(v0 : Int).toNat]? = some (12, 51)) ∧ ((((H (v0 : Int).toNat 7) : Int) ≤ 0 → FX12_divide_355 d K H q (v0) (v4) (v5) (0)) ∧ (¬ ((H (v0 : Int).toNat 7) : Int) ≤ 0 → (inI ((H (v0 : Int).toNat 7) - 1)) ∧ ((0 : Int) ≤ (H (v0 : Int).toNat 5)) ∧ ∃ n6 : Nat, (K[((H (v0 : Int).toNat 5) : Int).toNat]? = some (20, n6)) ∧ ((0 : Int) ≤ ((H (v0 : Int).toNat 7) - 1)) ∧ ((((H (v0 : Int).toNat 7) - 1) : Int) < n6) ∧ ((¬ ((H ((H (v0 : Int).toNat 5) : Int).toNat (((H (v0 : Int).toNat 7) - 1) : Int).toNat) : Int) = 0 → FX12_divide_355 d K H q (v0) (v4) (v5) (0)) ∧ (((H ((H (v0 : Int).toNat 5) : Int).toNat (((H (v0 : Int).toNat 7) - 1) : Int).toNat) : Int) = 0 → ∀ H11 : Mem, H11 = upA H (v0 : Int).toNat (up1 (H (v0 : Int).toNat) 7 ((H (v0 : Int).toNat 7) - 1)) → FX12_divide_318 d K H11 q (v0) (v4) (v5)))))) : FX12_divide_318 d K H q (v0) (v4) (v5) := by
  unfold FX12_divide_318
  refine r_aload_n 0 dX12_divide_318 rfl rfl ?_
  obtain ⟨h1, h⟩ := h
  obtain ⟨h2, h⟩ := h
  refine r_getf cls12 7 dX12_divide_319 (by decide) fl_RX12_138 rfl h1 h2 ?_
  refine r_if_le (tgt := 352) dX12_divide_322 (by decide) (fun c3 => ?_) (fun c3 => ?_)
  · replace h := h.1 c3
    refine r_iconst dX12_divide_352 (by decide) (by decide) ?_
    refine r_istore dX12_divide_353 (by decide) rfl ?_
    refine Fr.fewer [1, 2, 3, 0] rfl ?_
    exact h
  · replace h := h.2 c3
    refine r_aload_n 0 dX12_divide_325 rfl rfl ?_
    refine r_getf cls12 5 dX12_divide_326 (by decide) fl_RX12_19 rfl h1 h2 ?_
    refine r_aload_n 0 dX12_divide_329 rfl rfl ?_
    refine r_getf cls12 7 dX12_divide_330 (by decide) fl_RX12_138 rfl h1 h2 ?_
    refine r_iconst dX12_divide_333 (by decide) (by decide) ?_
    obtain ⟨h4, h⟩ := h
    refine r_isub dX12_divide_334 h4 ?_
    obtain ⟨h5, h⟩ := h
    obtain ⟨n6, h⟩ := h
    obtain ⟨h7, h⟩ := h
    obtain ⟨h8, h⟩ := h
    obtain ⟨h9, h⟩ := h
    refine r_iald n6 dX12_divide_335 h5 h7 h8 h9 ?_
    refine r_if_ne (tgt := 352) dX12_divide_336 (by decide) (fun c10 => ?_) (fun c10 => ?_)
    · replace h := h.1 c10
      refine r_iconst dX12_divide_352 (by decide) (by decide) ?_
      refine r_istore dX12_divide_353 (by decide) rfl ?_
      refine Fr.fewer [1, 2, 3, 0] rfl ?_
      exact h
    · replace h := h.2 c10
      refine r_aload_n 0 dX12_divide_339 rfl rfl ?_
      refine r_dup dX12_divide_340 (show (2 : Nat) ≠ 1 by decide) ?_
      refine r_getf cls12 7 dX12_divide_341 (by decide) fl_RX12_138 rfl h1 h2 ?_
      refine r_iconst dX12_divide_344 (by decide) (by decide) ?_
      refine r_isub dX12_divide_345 h4 ?_
      refine r_putf cls12 7 dX12_divide_346 (by decide) rfl fl_RX12_138 rfl h1 h2 (fun o => o) ?_
      replace h := h _ rfl
      generalize upA H (v0 : Int).toNat (up1 (H (v0 : Int).toNat) 7 ((H (v0 : Int).toNat 7) - 1)) = H11 at h ⊢
      refine r_goto (tgt := 318) dX12_divide_349 (by decide) ?_
      refine Fr.fewer [0, 1, 2] rfl ?_
      exact h
set_option maxRecDepth 20000 in
theorem bX12_divide_355 {d : Nat} {K : Shp} {H : Mem} {q : Mem → Prop} {v0 v4 v5 v6 : Int} (h : ((¬ (v6 : Int) < v4 → ((0 : Int) ≤ v0) ∧ (K[(v0 : Int).toNat]? = some (12, 51)) ∧ ∀ H4 : Mem, H4 = upA H (v0 : Int).toNat (up1 (H (v0 : Int).toNat) 6 v4) → FX12_divide_428 d K H4 q (v0)) ∧ ((v6 : Int) < v4 → ((0 : Int) ≤ v0) ∧ (K[(v0 : Int).toNat]? = some (12, 51)) ∧ ((0 : Int) ≤ (H (v0 : Int).toNat 3)) ∧ ∃ n8 : Nat, (K[((H (v0 : Int).toNat 3) : Int).toNat]? = some (20, n8)) ∧ ((0 : Int) ≤ v6) ∧ ((v6 : Int) < n8) ∧ ((0 : Int) ≤ v5) ∧ ((v5 : Int) < 32) ∧ (inI (v6 + 1)) ∧ ((¬ ((v6 + 1) : Int) < v4 → (∃ n : Nat, 0 ≤ ((H ((H (v0 : Int).toNat 3) : Int).toNat (v6 : Int).toNat) / (2 ^ (v5 : Int).toNat : Nat)) ∧ ((H ((H (v0 : Int).toNat 3) : Int).toNat (v6 : Int).toNat) / (2 ^ (v5 : Int).toNat : Nat)) % (2 ^ n : Nat) = 0 ∧ 0 ≤ 0 ∧ 0 < (2 ^ n : Nat) ∧ inI (((H ((H (v0 : Int).toNat 3) : Int).toNat (v6 : Int).toNat) / (2 ^ (v5 : Int).toNat : Nat)) + 0)) ∧ ∀ H17 : Mem, H17 = upA H ((H (v0 : Int).toNat 3) : Int).toNat (up1 (H ((H (v0 : Int).toNat 3) : Int).toNat) (v6 : Int).toNat (((H ((H (v0 : Int).toNat 3) : Int).toNat (v6 : Int).toNat) / (2 ^ (v5 : Int).toNat : Nat)) + 0)) → FX12_divide_355 d K H17 q (v0) (v4) (v5) ((v6 + 1))) ∧ (((v6 + 1) : Int) < v4 → (((v5 : Int) ≤ 0 → (∃ n : Nat, 0 ≤ ((H ((H (v0 : Int).toNat 3) : Int).toNat (v6 : Int).toNat) / (2 ^ (v5 : Int).toNat : Nat)) ∧ ((H ((H (v0 : Int).toNat 3) : Int).toNat (v6 : Int).toNat) / (2 ^ (v5 : Int).toNat : Nat)) % (2 ^ n : Nat) = 0 ∧ 0 ≤ 0 ∧ 0 < (2 ^ n : Nat) ∧ inI (((H ((H (v0 : Int).toNat 3) : Int).toNat (v6 : Int).toNat) / (2 ^ (v5 : Int).toNat : Nat)) + 0)) ∧ ∀ H20 : Mem, H20 = upA H ((H (v0 : Int).toNat 3) : Int).toNat (up1 (H ((H (v0 : Int).toNat 3) : Int).toNat) (v6 : Int).toNat (((H ((H (v0 : Int).toNat 3) : Int).toNat (v6 : Int).toNat) / (2 ^ (v5 : Int).toNat : Nat)) + 0)) → FX12_divide_355 d K H20 q (v0) (v4) (v5) ((v6 + 1))) ∧ (¬ (v5 : Int) ≤ 0 → ((0 : Int) ≤ (v6 + 1)) ∧ (((v6 + 1) : Int) < n8) ∧ (inI (30 - v5)) ∧ ((0 : Int) ≤ (30 - v5)) ∧ (((30 - v5) : Int) < 32) ∧ (∃ n : Nat, 0 ≤ ((H ((H (v0 : Int).toNat 3) : Int).toNat (v6 : Int).toNat) / (2 ^ (v5 : Int).toNat : Nat)) ∧ ((H ((H (v0 : Int).toNat 3) : Int).toNat (v6 : Int).toNat) / (2 ^ (v5 : Int).toNat : Nat)) % (2 ^ n : Nat) = 0 ∧ 0 ≤ ((((H ((H (v0 : Int).toNat 3) : Int).toNat ((v6 + 1) : Int).toNat) * (2 ^ ((30 - v5) : Int).toNat : Nat)).bmod 4294967296) % 1073741824) ∧ ((((H ((H (v0 : Int).toNat 3) : Int).toNat ((v6 + 1) : Int).toNat) * (2 ^ ((30 - v5) : Int).toNat : Nat)).bmod 4294967296) % 1073741824) < (2 ^ n : Nat) ∧ inI (((H ((H (v0 : Int).toNat 3) : Int).toNat (v6 : Int).toNat) / (2 ^ (v5 : Int).toNat : Nat)) + ((((H ((H (v0 : Int).toNat 3) : Int).toNat ((v6 + 1) : Int).toNat) * (2 ^ ((30 - v5) : Int).toNat : Nat)).bmod 4294967296) % 1073741824))) ∧ ∀ H27 : Mem, H27 = upA H ((H (v0 : Int).toNat 3) : Int).toNat (up1 (H ((H (v0 : Int).toNat 3) : Int).toNat) (v6 : Int).toNat (((H ((H (v0 : Int).toNat 3) : Int).toNat (v6 : Int).toNat) / (2 ^ (v5 : Int).toNat : Nat)) + ((((H ((H (v0 : Int).toNat 3) : Int).toNat ((v6 + 1) : Int).toNat) * (2 ^ ((30 - v5) : Int).toNat : Nat)).bmod 4294967296) % 1073741824))) → FX12_divide_355 d K H27 q (v0) (v4) (v5) ((v6 + 1))))))))) : FX12_divide_355 d K H q (v0) (v4) (v5) (v6) := by
  unfold FX12_divide_355
  refine r_iload 3 dX12_divide_355 rfl ?_
  refine r_iload 1 dX12_divide_357 rfl ?_
  refine r_icmp_ge (tgt := 422) dX12_divide_359 (by decide) (fun c1 => ?_) (fun c1 => ?_)
  · replace h := h.1 c1
    refine r_aload_n 0 dX12_divide_422 rfl rfl ?_
    refine r_iload 1 dX12_divide_423 rfl ?_
    obtain ⟨h2, h⟩ := h
    obtain ⟨h3, h⟩ := h
    refine r_putf cls12 6 dX12_divide_425 (by decide) rfl fl_RX12_135 rfl h2 h3 (fun o => o) ?_
    replace h := h _ rfl
    generalize upA H (v0 : Int).toNat (up1 (H (v0 : Int).toNat) 6 v4) = H4 at h ⊢
    refine Fr.fewer [0] rfl ?_
    exact h
  · replace h := h.2 c1
    refine r_aload_n 0 dX12_divide_362 rfl rfl ?_
    obtain ⟨h5, h⟩ := h
    obtain ⟨h6, h⟩ := h
    refine r_getf cls12 3 dX12_divide_363 (by decide) fl_RX12_13 rfl h5 h6 ?_
    refine r_iload 3 dX12_divide_366 rfl ?_
    refine r_aload_n 0 dX12_divide_368 rfl rfl ?_
    refine r_getf cls12 3 dX12_divide_369 (by decide) fl_RX12_13 rfl h5 h6 ?_
    refine r_iload 3 dX12_divide_372 rfl ?_
    obtain ⟨h7, h⟩ := h
    obtain ⟨n8, h⟩ := h
    obtain ⟨h9, h⟩ := h
    obtain ⟨h10, h⟩ := h
    obtain ⟨h11, h⟩ := h
    refine r_iald n8 dX12_divide_374 h7 h9 h10 h11 ?_
    refine r_iload 2 dX12_divide_375 rfl ?_
    obtain ⟨h12, h⟩ := h
    obtain ⟨h13, h⟩ := h
    refine r_ishr dX12_divide_377 h12 h13 ?_
    refine r_iload 3 dX12_divide_378 rfl ?_
    refine r_iconst dX12_divide_380 (by decide) (by decide) ?_
    obtain ⟨h14, h⟩ := h
    refine r_iadd dX12_divide_381 h14 ?_
    refine r_iload 1 dX12_divide_382 rfl ?_
    refine r_icmp_ge (tgt := 413) dX12_divide_384 (by decide) (fun c15 => ?_) (fun c15 => ?_)
    · replace h := h.1 c15
      refine r_iconst dX12_divide_413 (by decide) (by decide) ?_
      obtain ⟨h16, h⟩ := h
      obtain ⟨nh16, h16a, h16b, h16c, h16d, h16e⟩ := h16
      refine r_ior nh16 dX12_divide_414 h16a h16b h16c h16d h16e ?_
      refine r_iast n8 dX12_divide_415 h7 h9 h10 h11 ?_
      replace h := h _ rfl
      generalize upA H ((H (v0 : Int).toNat 3) : Int).toNat (up1 (H ((H (v0 : Int).toNat 3) : Int).toNat) (v6 : Int).toNat (((H ((H (v0 : Int).toNat 3) : Int).toNat (v6 : Int).toNat) / (2 ^ (v5 : Int).toNat : Nat)) + 0)) = H17 at h ⊢
      refine r_iinc 3 dX12_divide_416 (by decide) rfl h14 rfl ?_
      refine r_goto (tgt := 355) dX12_divide_419 (by decide) ?_
      refine Fr.fewer [1, 2, 3, 0] rfl ?_
      exact h
    · replace h := h.2 c15
      refine r_iload 2 dX12_divide_387 rfl ?_
      refine r_if_le (tgt := 413) dX12_divide_389 (by decide) (fun c18 => ?_) (fun c18 => ?_)
      · replace h := h.1 c18
        refine r_iconst dX12_divide_413 (by decide) (by decide) ?_
        obtain ⟨h19, h⟩ := h
        obtain ⟨nh19, h19a, h19b, h19c, h19d, h19e⟩ := h19
        refine r_ior nh19 dX12_divide_414 h19a h19b h19c h19d h19e ?_
        refine r_iast n8 dX12_divide_415 h7 h9 h10 h11 ?_
        replace h := h _ rfl
        generalize upA H ((H (v0 : Int).toNat 3) : Int).toNat (up1 (H ((H (v0 : Int).toNat 3) : Int).toNat) (v6 : Int).toNat (((H ((H (v0 : Int).toNat 3) : Int).toNat (v6 : Int).toNat) / (2 ^ (v5 : Int).toNat : Nat)) + 0)) = H20 at h ⊢
        refine r_iinc 3 dX12_divide_416 (by decide) rfl h14 rfl ?_
        refine r_goto (tgt := 355) dX12_divide_419 (by decide) ?_
        refine Fr.fewer [1, 2, 3, 0] rfl ?_
        exact h
      · replace h := h.2 c18
        refine r_aload_n 0 dX12_divide_392 rfl rfl ?_
        refine r_getf cls12 3 dX12_divide_393 (by decide) fl_RX12_13 rfl h5 h6 ?_
        refine r_iload 3 dX12_divide_396 rfl ?_
        refine r_iconst dX12_divide_398 (by decide) (by decide) ?_
        refine r_iadd dX12_divide_399 h14 ?_
        obtain ⟨h21, h⟩ := h
        obtain ⟨h22, h⟩ := h
        refine r_iald n8 dX12_divide_400 h7 h9 h21 h22 ?_
        refine r_bipush dX12_divide_401 (by decide) (by decide) ?_
        refine r_iload 2 dX12_divide_403 rfl ?_
        obtain ⟨h23, h⟩ := h
        refine r_isub dX12_divide_405 h23 ?_
        obtain ⟨h24, h⟩ := h
        obtain ⟨h25, h⟩ := h
        refine r_ishl dX12_divide_406 h24 h25 ?_
        refine r_ldc (x := 1073741823) dX12_divide_407 kc_RX12_121 (by decide) (by decide) ?_
        refine r_iand30 dX12_divide_409 ?_
        refine r_goto (tgt := 414) dX12_divide_410 (by decide) ?_
        obtain ⟨h26, h⟩ := h
        obtain ⟨nh26, h26a, h26b, h26c, h26d, h26e⟩ := h26
        refine r_ior nh26 dX12_divide_414 h26a h26b h26c h26d h26e ?_
        refine r_iast n8 dX12_divide_415 h7 h9 h10 h11 ?_
        replace h := h _ rfl
        generalize upA H ((H (v0 : Int).toNat 3) : Int).toNat (up1 (H ((H (v0 : Int).toNat 3) : Int).toNat) (v6 : Int).toNat (((H ((H (v0 : Int).toNat 3) : Int).toNat (v6 : Int).toNat) / (2 ^ (v5 : Int).toNat : Nat)) + ((((H ((H (v0 : Int).toNat 3) : Int).toNat ((v6 + 1) : Int).toNat) * (2 ^ ((30 - v5) : Int).toNat : Nat)).bmod 4294967296) % 1073741824))) = H27 at h ⊢
        refine r_iinc 3 dX12_divide_416 (by decide) rfl h14 rfl ?_
        refine r_goto (tgt := 355) dX12_divide_419 (by decide) ?_
        refine Fr.fewer [1, 2, 3, 0] rfl ?_
        exact h
set_option maxRecDepth 20000 in
theorem bX12_divide_428 {d : Nat} {K : Shp} {H : Mem} {q : Mem → Prop} {v0 : Int} (h : ((0 : Int) ≤ v0) ∧ (K[(v0 : Int).toNat]? = some (12, 51)) ∧ ((((H (v0 : Int).toNat 6) : Int) ≤ 0 → q H) ∧ (¬ ((H (v0 : Int).toNat 6) : Int) ≤ 0 → (inI ((H (v0 : Int).toNat 6) - 1)) ∧ ((0 : Int) ≤ (H (v0 : Int).toNat 3)) ∧ ∃ n6 : Nat, (K[((H (v0 : Int).toNat 3) : Int).toNat]? = some (20, n6)) ∧ ((0 : Int) ≤ ((H (v0 : Int).toNat 6) - 1)) ∧ ((((H (v0 : Int).toNat 6) - 1) : Int) < n6) ∧ ((¬ ((H ((H (v0 : Int).toNat 3) : Int).toNat (((H (v0 : Int).toNat 6) - 1) : Int).toNat) : Int) = 0 → q H) ∧ (((H ((H (v0 : Int).toNat 3) : Int).toNat (((H (v0 : Int).toNat 6) - 1) : Int).toNat) : Int) = 0 → ∀ H11 : Mem, H11 = upA H (v0 : Int).toNat (up1 (H (v0 : Int).toNat) 6 ((H (v0 : Int).toNat 6) - 1)) → FX12_divide_428 d K H11 q (v0)))))) : FX12_divide_428 d K H q (v0) := by
  unfold FX12_divide_428
  refine r_aload_n 0 dX12_divide_428 rfl rfl ?_
  obtain ⟨h1, h⟩ := h
  obtain ⟨h2, h⟩ := h
  refine r_getf cls12 6 dX12_divide_429 (by decide) fl_RX12_135 rfl h1 h2 ?_
  refine r_if_le (tgt := 462) dX12_divide_432 (by decide) (fun c3 => ?_) (fun c3 => ?_)
  · replace h := h.1 c3
    exact r_vret dX12_divide_462 rfl ⟨rfl, rfl, h⟩
  · replace h := h.2 c3
    refine r_aload_n 0 dX12_divide_435 rfl rfl ?_
    refine r_getf cls12 3 dX12_divide_436 (by decide) fl_RX12_13 rfl h1 h2 ?_
    refine r_aload_n 0 dX12_divide_439 rfl rfl ?_
    refine r_getf cls12 6 dX12_divide_440 (by decide) fl_RX12_135 rfl h1 h2 ?_
    refine r_iconst dX12_divide_443 (by decide) (by decide) ?_
    obtain ⟨h4, h⟩ := h
    refine r_isub dX12_divide_444 h4 ?_
    obtain ⟨h5, h⟩ := h
    obtain ⟨n6, h⟩ := h
    obtain ⟨h7, h⟩ := h
    obtain ⟨h8, h⟩ := h
    obtain ⟨h9, h⟩ := h
    refine r_iald n6 dX12_divide_445 h5 h7 h8 h9 ?_
    refine r_if_ne (tgt := 462) dX12_divide_446 (by decide) (fun c10 => ?_) (fun c10 => ?_)
    · replace h := h.1 c10
      exact r_vret dX12_divide_462 rfl ⟨rfl, rfl, h⟩
    · replace h := h.2 c10
      refine r_aload_n 0 dX12_divide_449 rfl rfl ?_
      refine r_dup dX12_divide_450 (show (2 : Nat) ≠ 1 by decide) ?_
      refine r_getf cls12 6 dX12_divide_451 (by decide) fl_RX12_135 rfl h1 h2 ?_
      refine r_iconst dX12_divide_454 (by decide) (by decide) ?_
      refine r_isub dX12_divide_455 h4 ?_
      refine r_putf cls12 6 dX12_divide_456 (by decide) rfl fl_RX12_135 rfl h1 h2 (fun o => o) ?_
      replace h := h _ rfl
      generalize upA H (v0 : Int).toNat (up1 (H (v0 : Int).toNat) 6 ((H (v0 : Int).toNat 6) - 1)) = H11 at h ⊢
      refine r_goto (tgt := 428) dX12_divide_459 (by decide) ?_
      refine Fr.fewer [0] rfl ?_
      exact h
set_option maxRecDepth 20000 in
theorem eX12_divide {d : Nat} {K : Shp} {H : Mem} {q : Mem → Prop} {v0 v1 v2 : Int} (h : inI v1 → inI v2 → Rng K H → FX12_divide_0 d K H q v0 v1 v2) : Cv mX12_divide (d + 1) [(2, v0), (0, v1), (0, v2)] K H q := Call.of rfl (Nat.le_of_ble_eq_true rfl) (fun o r => h (o (0, v1) (by simp)) (o (0, v2) (by simp)) r)
def FX12_divideShort_0 (d : Nat) (K : Shp) (H : Mem) (q : Mem → Prop) (v0 : Int) (v1 : Int) : Prop := Fr mX12_divideShort d 0 0 none 0 [(0, (2, v0)), (1, (0, v1))] [] K H (qv K q)
def FX12_divideShort_10 (d : Nat) (K : Shp) (H : Mem) (q : Mem → Prop) (v0 : Int) (v1 : Int) (v2 : Int) (v4 : Int) : Prop := Fr mX12_divideShort d 0 0 none 10 [(0, (2, v0)), (1, (0, v1)), (2, (1, v2)), (4, (0, v4))] [] K H (qv K q)
def FX12_divideShort_63 (d : Nat) (K : Shp) (H : Mem) (q : Mem → Prop) (v0 : Int) (v2 : Int) : Prop := Fr mX12_divideShort d 0 0 none 63 [(0, (2, v0)), (2, (1, v2))] [] K H (qv K q)
set_option maxRecDepth 20000 in
theorem bX12_divideShort_0 {d : Nat} {K : Shp} {H : Mem} {q : Mem → Prop} {v0 v1 : Int} (h : ((0 : Int) ≤ v0) ∧ (K[(v0 : Int).toNat]? = some (12, 51)) ∧ (inI ((H (v0 : Int).toNat 6) - 1)) ∧ FX12_divideShort_10 d K H q (v0) (v1) (0) (((H (v0 : Int).toNat 6) - 1))) : FX12_divideShort_0 d K H q (v0) (v1) := by
  unfold FX12_divideShort_0
  refine r_lconst0 dX12_divideShort_0 ?_
  refine r_lstore_n dX12_divideShort_1 rfl (by decide) rfl ?_
  refine r_aload_n 1 dX12_divideShort_2 rfl rfl ?_
  obtain ⟨h1, h⟩ := h
  obtain ⟨h2, h⟩ := h
  refine r_getf cls12 6 dX12_divideShort_3 (by decide) fl_RX12_135 rfl h1 h2 ?_
  refine r_iconst dX12_divideShort_6 (by decide) (by decide) ?_
  obtain ⟨h3, h⟩ := h
  refine r_isub dX12_divideShort_7 h3 ?_
  refine r_istore dX12_divideShort_8 (by decide) rfl ?_
  refine Fr.fewer [2, 3, 1, 0] rfl ?_
  exact h
set_option maxRecDepth 20000 in
theorem bX12_divideShort_10 {d : Nat} {K : Shp} {H : Mem} {q : Mem → Prop} {v0 v1 v2 v4 : Int} (h : (((v4 : Int) < 0 → ((0 : Int) ≤ v0) ∧ (K[(v0 : Int).toNat]? = some (12, 51)) ∧ ∀ H4 : Mem, H4 = upA H (v0 : Int).toNat (up1 (H (v0 : Int).toNat) 7 (H (v0 : Int).toNat 6)) → FX12_divideShort_63 d K H4 q (v0) (v2)) ∧ (¬ (v4 : Int) < 0 → (inL (v2 * 1073741824)) ∧ ((0 : Int) ≤ v0) ∧ (K[(v0 : Int).toNat]? = some (12, 51)) ∧ ((0 : Int) ≤ (H (v0 : Int).toNat 3)) ∧ ∃ n9 : Nat, (K[((H (v0 : Int).toNat 3) : Int).toNat]? = some (20, n9)) ∧ ((0 : Int) ≤ v4) ∧ ((v4 : Int) < n9) ∧ (∃ n : Nat, 0 ≤ (v2 * 1073741824) ∧ (v2 * 1073741824) % (2 ^ n : Nat) = 0 ∧ 0 ≤ (H ((H (v0 : Int).toNat 3) : Int).toNat (v4 : Int).toNat) ∧ (H ((H (v0 : Int).toNat 3) : Int).toNat (v4 : Int).toNat) < (2 ^ n : Nat) ∧ inL ((v2 * 1073741824) + (H ((H (v0 : Int).toNat 3) : Int).toNat (v4 : Int).toNat))) ∧ ((v1 : Int) ≠ 0) ∧ (inL (Int.tdiv ((v2 * 1073741824) + (H ((H (v0 : Int).toNat 3) : Int).toNat (v4 : Int).toNat)) v1)) ∧ (inI (Int.tdiv ((v2 * 1073741824) + (H ((H (v0 : Int).toNat 3) : Int).toNat (v4 : Int).toNat)) v1)) ∧ ((0 : Int) ≤ (H (v0 : Int).toNat 5)) ∧ ∃ n18 : Nat, (K[((H (v0 : Int).toNat 5) : Int).toNat]? = some (20, n18)) ∧ ((v4 : Int) < n18) ∧ ∀ H21 : Mem, H21 = upA H ((H (v0 : Int).toNat 5) : Int).toNat (up1 (H ((H (v0 : Int).toNat 5) : Int).toNat) (v4 : Int).toNat (Int.tdiv ((v2 * 1073741824) + (H ((H (v0 : Int).toNat 3) : Int).toNat (v4 : Int).toNat)) v1)) → (inL (Int.tmod ((v2 * 1073741824) + (H ((H (v0 : Int).toNat 3) : Int).toNat (v4 : Int).toNat)) v1)) ∧ (inI (v4 + (-1))) ∧ FX12_divideShort_10 d K H21 q (v0) (v1) ((Int.tmod ((v2 * 1073741824) + (H ((H (v0 : Int).toNat 3) : Int).toNat (v4 : Int).toNat)) v1)) ((v4 + (-1)))))) : FX12_divideShort_10 d K H q (v0) (v1) (v2) (v4) := by
  unfold FX12_divideShort_10
  refine r_iload 3 dX12_divideShort_10 rfl ?_
  refine r_if_lt (tgt := 55) dX12_divideShort_12 (by decide) (fun c1 => ?_) (fun c1 => ?_)
  · replace h := h.1 c1
    refine r_aload_n 0 dX12_divideShort_55 rfl rfl ?_
    refine r_aload_n 0 dX12_divideShort_56 rfl rfl ?_
    obtain ⟨h2, h⟩ := h
    obtain ⟨h3, h⟩ := h
    refine r_getf cls12 6 dX12_divideShort_57 (by decide) fl_RX12_135 rfl h2 h3 ?_
    refine r_putf cls12 7 dX12_divideShort_60 (by decide) rfl fl_RX12_138 rfl h2 h3 (fun o => o) ?_
    replace h := h _ rfl
    generalize upA H (v0 : Int).toNat (up1 (H (v0 : Int).toNat) 7 (H (v0 : Int).toNat 6)) = H4 at h ⊢
    refine Fr.fewer [0, 2] rfl ?_
    exact h
  · replace h := h.2 c1
    refine r_lload_n 2 dX12_divideShort_15 rfl rfl ?_
    refine r_bipush dX12_divideShort_16 (by decide) (by decide) ?_
    obtain ⟨h5, h⟩ := h
    refine r_lshl30 dX12_divideShort_18 h5 ?_
    refine r_aload_n 0 dX12_divideShort_19 rfl rfl ?_
    obtain ⟨h6, h⟩ := h
    obtain ⟨h7, h⟩ := h
    refine r_getf cls12 3 dX12_divideShort_20 (by decide) fl_RX12_13 rfl h6 h7 ?_
    refine r_iload 3 dX12_divideShort_23 rfl ?_
    obtain ⟨h8, h⟩ := h
    obtain ⟨n9, h⟩ := h
    obtain ⟨h10, h⟩ := h
    obtain ⟨h11, h⟩ := h
    obtain ⟨h12, h⟩ := h
    refine r_iald n9 dX12_divideShort_25 h8 h10 h11 h12 ?_
    refine r_i2l dX12_divideShort_26 ?_
    obtain ⟨h13, h⟩ := h
    obtain ⟨nh13, h13a, h13b, h13c, h13d, h13e⟩ := h13
    refine r_lor nh13 dX12_divideShort_27 h13a h13b h13c h13d h13e ?_
    refine r_lstore dX12_divideShort_28 (by decide) rfl ?_
    refine r_aload_n 1 dX12_divideShort_30 rfl rfl ?_
    refine r_getf cls12 5 dX12_divideShort_31 (by decide) fl_RX12_19 rfl h6 h7 ?_
    refine r_iload 4 dX12_divideShort_34 rfl ?_
    refine r_lload 0 dX12_divideShort_36 rfl ?_
    refine r_iload_n 2 dX12_divideShort_38 rfl rfl ?_
    refine r_i2l dX12_divideShort_39 ?_
    obtain ⟨h14, h⟩ := h
    obtain ⟨h15, h⟩ := h
    refine r_ldiv dX12_divideShort_40 h14 h15 ?_
    obtain ⟨h16, h⟩ := h
    refine r_l2i dX12_divideShort_41 h16 ?_
    obtain ⟨h17, h⟩ := h
    obtain ⟨n18, h⟩ := h
    obtain ⟨h19, h⟩ := h
    obtain ⟨h20, h⟩ := h
    refine r_iast n18 dX12_divideShort_42 h17 h19 h11 h20 ?_
    replace h := h _ rfl
    generalize upA H ((H (v0 : Int).toNat 5) : Int).toNat (up1 (H ((H (v0 : Int).toNat 5) : Int).toNat) (v4 : Int).toNat (Int.tdiv ((v2 * 1073741824) + (H ((H (v0 : Int).toNat 3) : Int).toNat (v4 : Int).toNat)) v1)) = H21 at h ⊢
    refine r_lload 0 dX12_divideShort_43 rfl ?_
    refine r_iload_n 2 dX12_divideShort_45 rfl rfl ?_
    refine r_i2l dX12_divideShort_46 ?_
    obtain ⟨h22, h⟩ := h
    refine r_lrem dX12_divideShort_47 h14 h22 ?_
    refine r_lstore_n dX12_divideShort_48 rfl (by decide) rfl ?_
    obtain ⟨h23, h⟩ := h
    refine r_iinc 4 dX12_divideShort_49 (by decide) rfl h23 rfl ?_
    refine r_goto (tgt := 10) dX12_divideShort_52 (by decide) ?_
    refine Fr.fewer [3, 4, 1, 0] rfl ?_
    exact h
set_option maxRecDepth 20000 in
theorem bX12_divideShort_63 {d : Nat} {K : Shp} {H : Mem} {q : Mem → Prop} {v0 v2 : Int} (h : ((0 : Int) ≤ v0) ∧ (K[(v0 : Int).toNat]? = some (12, 51)) ∧ ((((H (v0 : Int).toNat 7) : Int) ≤ 0 → (inI v2) ∧ ((0 : Int) ≤ (H (v0 : Int).toNat 3)) ∧ ∃ n6 : Nat, (K[((H (v0 : Int).toNat 3) : Int).toNat]? = some (20, n6)) ∧ ((0 : Int) < n6) ∧ ∀ H9 : Mem, H9 = upA H ((H (v0 : Int).toNat 3) : Int).toNat (up1 (H ((H (v0 : Int).toNat 3) : Int).toNat) (0 : Int).toNat v2) → ((¬ (v2 : Int) = 0 → ∀ H11 : Mem, H11 = upA H9 (v0 : Int).toNat (up1 (H9 (v0 : Int).toNat) 6 1) → q H11) ∧ ((v2 : Int) = 0 → ∀ H12 : Mem, H12 = upA H9 (v0 : Int).toNat (up1 (H9 (v0 : Int).toNat) 6 0) → q H12))) ∧ (¬ ((H (v0 : Int).toNat 7) : Int) ≤ 0 → (inI ((H (v0 : Int).toNat 7) - 1)) ∧ ((0 : Int) ≤ (H (v0 : Int).toNat 5)) ∧ ∃ n15 : Nat, (K[((H (v0 : Int).toNat 5) : Int).toNat]? = some (20, n15)) ∧ ((0 : Int) ≤ ((H (v0 : Int).toNat 7) - 1)) ∧ ((((H (v0 : Int).toNat 7) - 1) : Int) < n15) ∧ ((¬ ((H ((H (v0 : Int).toNat 5) : Int).toNat (((H (v0 : Int).toNat 7) - 1) : Int).toNat) : Int) = 0 → (inI v2) ∧ ((0 : Int) ≤ (H (v0 : Int).toNat 3)) ∧ ∃ n22 : Nat, (K[((H (v0 : Int).toNat 3) : Int).toNat]? = some (20, n22)) ∧ ((0 : Int) < n22) ∧ ∀ H25 : Mem, H25 = upA H ((H (v0 : Int).toNat 3) : Int).toNat (up1 (H ((H (v0 : Int).toNat 3) : Int).toNat) (0 : Int).toNat v2) → ((¬ (v2 : Int) = 0 → ∀ H27 : Mem, H27 = upA H25 (v0 : Int).toNat (up1 (H25 (v0 : Int).toNat) 6 1) → q H27) ∧ ((v2 : Int) = 0 → ∀ H28 : Mem, H28 = upA H25 (v0 : Int).toNat (up1 (H25 (v0 : Int).toNat) 6 0) → q H28))) ∧ (((H ((H (v0 : Int).toNat 5) : Int).toNat (((H (v0 : Int).toNat 7) - 1) : Int).toNat) : Int) = 0 → ∀ H29 : Mem, H29 = upA H (v0 : Int).toNat (up1 (H (v0 : Int).toNat) 7 ((H (v0 : Int).toNat 7) - 1)) → FX12_divideShort_63 d K H29 q (v0) (v2)))))) : FX12_divideShort_63 d K H q (v0) (v2) := by
  unfold FX12_divideShort_63
  refine r_aload_n 0 dX12_divideShort_63 rfl rfl ?_
  obtain ⟨h1, h⟩ := h
  obtain ⟨h2, h⟩ := h
  refine r_getf cls12 7 dX12_divideShort_64 (by decide) fl_RX12_138 rfl h1 h2 ?_
  refine r_if_le (tgt := 97) dX12_divideShort_67 (by decide) (fun c3 => ?_) (fun c3 => ?_)
  · replace h := h.1 c3
    refine r_aload_n 0 dX12_divideShort_97 rfl rfl ?_
    refine r_getf cls12 3 dX12_divideShort_98 (by decide) fl_RX12_13 rfl h1 h2 ?_
    refine r_iconst dX12_divideShort_101 (by decide) (by decide) ?_
    refine r_lload_n 1 dX12_divideShort_102 rfl rfl ?_
    obtain ⟨h4, h⟩ := h
    refine r_l2i dX12_divideShort_103 h4 ?_
    obtain ⟨h5, h⟩ := h
    obtain ⟨n6, h⟩ := h
    obtain ⟨h7, h⟩ := h
    obtain ⟨h8, h⟩ := h
    refine r_iast n6 dX12_divideShort_104 h5 h7 (by decide) h8 ?_
    replace h := h _ rfl
    generalize upA H ((H (v0 : Int).toNat 3) : Int).toNat (up1 (H ((H (v0 : Int).toNat 3) : Int).toNat) (0 : Int).toNat v2) = H9 at h ⊢
    refine r_aload_n 0 dX12_divideShort_105 rfl rfl ?_
    refine r_lload_n 1 dX12_divideShort_106 rfl rfl ?_
    refine r_lconst0 dX12_divideShort_107 ?_
    refine r_lcmp dX12_divideShort_108 ?_
    refine r_if_ne (tgt := 116) dX12_divideShort_109 (by decide) (fun c10 => ?_) (fun c10 => ?_)
    · replace h := h.1 (fun q => c10 (cmpL_eq.mpr q))
      refine r_iconst dX12_divideShort_116 (by decide) (by decide) ?_
      refine r_putf cls12 6 dX12_divideShort_117 (by decide) rfl fl_RX12_135 rfl h1 h2 (fun o => o) ?_
      replace h := h _ rfl
      generalize upA H9 (v0 : Int).toNat (up1 (H9 (v0 : Int).toNat) 6 1) = H11 at h ⊢
      exact r_vret dX12_divideShort_120 rfl ⟨rfl, rfl, h⟩
    · replace h := h.2 (cmpL_eq.mp c10)
      refine r_iconst dX12_divideShort_112 (by decide) (by decide) ?_
      refine r_goto (tgt := 117) dX12_divideShort_113 (by decide) ?_
      refine r_putf cls12 6 dX12_divideShort_117 (by decide) rfl fl_RX12_135 rfl h1 h2 (fun o => o) ?_
      replace h := h _ rfl
      generalize upA H9 (v0 : Int).toNat (up1 (H9 (v0 : Int).toNat) 6 0) = H12 at h ⊢
      exact r_vret dX12_divideShort_120 rfl ⟨rfl, rfl, h⟩
  · replace h := h.2 c3
    refine r_aload_n 0 dX12_divideShort_70 rfl rfl ?_
    refine r_getf cls12 5 dX12_divideShort_71 (by decide) fl_RX12_19 rfl h1 h2 ?_
    refine r_aload_n 0 dX12_divideShort_74 rfl rfl ?_
    refine r_getf cls12 7 dX12_divideShort_75 (by decide) fl_RX12_138 rfl h1 h2 ?_
    refine r_iconst dX12_divideShort_78 (by decide) (by decide) ?_
    obtain ⟨h13, h⟩ := h
    refine r_isub dX12_divideShort_79 h13 ?_
    obtain ⟨h14, h⟩ := h
    obtain ⟨n15, h⟩ := h
    obtain ⟨h16, h⟩ := h
    obtain ⟨h17, h⟩ := h
    obtain ⟨h18, h⟩ := h
    refine r_iald n15 dX12_divideShort_80 h14 h16 h17 h18 ?_
    refine r_if_ne (tgt := 97) dX12_divideShort_81 (by decide) (fun c19 => ?_) (fun c19 => ?_)
    · replace h := h.1 c19
      refine r_aload_n 0 dX12_divideShort_97 rfl rfl ?_
      refine r_getf cls12 3 dX12_divideShort_98 (by decide) fl_RX12_13 rfl h1 h2 ?_
      refine r_iconst dX12_divideShort_101 (by decide) (by decide) ?_
      refine r_lload_n 1 dX12_divideShort_102 rfl rfl ?_
      obtain ⟨h20, h⟩ := h
      refine r_l2i dX12_divideShort_103 h20 ?_
      obtain ⟨h21, h⟩ := h
      obtain ⟨n22, h⟩ := h
      obtain ⟨h23, h⟩ := h
      obtain ⟨h24, h⟩ := h
      refine r_iast n22 dX12_divideShort_104 h21 h23 (by decide) h24 ?_
      replace h := h _ rfl
      generalize upA H ((H (v0 : Int).toNat 3) : Int).toNat (up1 (H ((H (v0 : Int).toNat 3) : Int).toNat) (0 : Int).toNat v2) = H25 at h ⊢
      refine r_aload_n 0 dX12_divideShort_105 rfl rfl ?_
      refine r_lload_n 1 dX12_divideShort_106 rfl rfl ?_
      refine r_lconst0 dX12_divideShort_107 ?_
      refine r_lcmp dX12_divideShort_108 ?_
      refine r_if_ne (tgt := 116) dX12_divideShort_109 (by decide) (fun c26 => ?_) (fun c26 => ?_)
      · replace h := h.1 (fun q => c26 (cmpL_eq.mpr q))
        refine r_iconst dX12_divideShort_116 (by decide) (by decide) ?_
        refine r_putf cls12 6 dX12_divideShort_117 (by decide) rfl fl_RX12_135 rfl h1 h2 (fun o => o) ?_
        replace h := h _ rfl
        generalize upA H25 (v0 : Int).toNat (up1 (H25 (v0 : Int).toNat) 6 1) = H27 at h ⊢
        exact r_vret dX12_divideShort_120 rfl ⟨rfl, rfl, h⟩
      · replace h := h.2 (cmpL_eq.mp c26)
        refine r_iconst dX12_divideShort_112 (by decide) (by decide) ?_
        refine r_goto (tgt := 117) dX12_divideShort_113 (by decide) ?_
        refine r_putf cls12 6 dX12_divideShort_117 (by decide) rfl fl_RX12_135 rfl h1 h2 (fun o => o) ?_
        replace h := h _ rfl
        generalize upA H25 (v0 : Int).toNat (up1 (H25 (v0 : Int).toNat) 6 0) = H28 at h ⊢
        exact r_vret dX12_divideShort_120 rfl ⟨rfl, rfl, h⟩
    · replace h := h.2 c19
      refine r_aload_n 0 dX12_divideShort_84 rfl rfl ?_
      refine r_dup dX12_divideShort_85 (show (2 : Nat) ≠ 1 by decide) ?_
      refine r_getf cls12 7 dX12_divideShort_86 (by decide) fl_RX12_138 rfl h1 h2 ?_
      refine r_iconst dX12_divideShort_89 (by decide) (by decide) ?_
      refine r_isub dX12_divideShort_90 h13 ?_
      refine r_putf cls12 7 dX12_divideShort_91 (by decide) rfl fl_RX12_138 rfl h1 h2 (fun o => o) ?_
      replace h := h _ rfl
      generalize upA H (v0 : Int).toNat (up1 (H (v0 : Int).toNat) 7 ((H (v0 : Int).toNat 7) - 1)) = H29 at h ⊢
      refine r_goto (tgt := 63) dX12_divideShort_94 (by decide) ?_
      refine Fr.fewer [0, 1] rfl ?_
      exact h
set_option maxRecDepth 20000 in
theorem eX12_divideShort {d : Nat} {K : Shp} {H : Mem} {q : Mem → Prop} {v0 v1 : Int} (h : inI v1 → Rng K H → FX12_divideShort_0 d K H q v0 v1) : Cv mX12_divideShort d [(2, v0), (0, v1)] K H q := Call.of rfl (Nat.le_of_ble_eq_true rfl) (fun o r => h (o (0, v1) (by simp)) r)
def FX12_step_0 (d : Nat) (K : Shp) (H : Mem) (q : Int → Mem → Prop) (v0 : Int) (v1 : Int) (v2 : Int) : Prop := Fr mX12_step (d + 1) 0 0 none 0 [(0, (2, v0)), (1, (0, v1)), (2, (0, v2))] [] K H (qi K q)
def FX12_step_53 (d : Nat) (K : Shp) (H : Mem) (q : Int → Mem → Prop) (v0 : Int) (v1 : Int) (v2 : Int) (v5 : Int) (v7 : Int) (v9 : Int) (v11 : Int) : Prop := Fr mX12_step (d + 1) 0 0 none 53 [(0, (2, v0)), (1, (0, v1)), (2, (0, v2)), (5, (1, v5)), (7, (1, v7)), (9, (1, v9)), (11, (0, v11))] [] K H (qi K q)
def FX12_step_157 (d : Nat) (K : Shp) (H : Mem) (q : Int → Mem → Prop) (v0 : Int) (v1 : Int) (v2 : Int) (v5 : Int) (v11 : Int) : Prop := Fr mX12_step (d + 1) 0 0 none 157 [(0, (2, v0)), (1, (0, v1)), (2, (0, v2)), (5, (1, v5)), (11, (1, v11))] [] K H (qi K q)
def FX12_step_176 (d : Nat) (K : Shp) (H : Mem) (q : Int → Mem → Prop) (v0 : Int) (v1 : Int) (v2 : Int) (v5 : Int) (v11 : Int) (v13 : Int) (v15 : Int) : Prop := Fr mX12_step (d + 1) 0 0 none 176 [(0, (2, v0)), (1, (0, v1)), (2, (0, v2)), (5, (1, v5)), (11, (1, v11)), (13, (1, v13)), (15, (0, v15))] [] K H (qi K q)
set_option maxRecDepth 20000 in
theorem bX12_step_0 {d : Nat} {K : Shp} {H : Mem} {q : Int → Mem → Prop} {v0 v1 v2 : Int} (h : ((0 : Int) ≤ v0) ∧ (K[(v0 : Int).toNat]? = some (12, 51)) ∧ (inI (v1 + v2)) ∧ ((0 : Int) ≤ (H (v0 : Int).toNat 3)) ∧ ∃ n5 : Nat, (K[((H (v0 : Int).toNat 3) : Int).toNat]? = some (20, n5)) ∧ ((0 : Int) ≤ (v1 + v2)) ∧ (((v1 + v2) : Int) < n5) ∧ (inL ((H ((H (v0 : Int).toNat 3) : Int).toNat ((v1 + v2) : Int).toNat) * 1073741824)) ∧ (inI ((v1 + v2) - 1)) ∧ ((0 : Int) ≤ ((v1 + v2) - 1)) ∧ ((((v1 + v2) - 1) : Int) < n5) ∧ (∃ n : Nat, 0 ≤ ((H ((H (v0 : Int).toNat 3) : Int).toNat ((v1 + v2) : Int).toNat) * 1073741824) ∧ ((H ((H (v0 : Int).toNat 3) : Int).toNat ((v1 + v2) : Int).toNat) * 1073741824) % (2 ^ n : Nat) = 0 ∧ 0 ≤ (H ((H (v0 : Int).toNat 3) : Int).toNat (((v1 + v2) - 1) : Int).toNat) ∧ (H ((H (v0 : Int).toNat 3) : Int).toNat (((v1 + v2) - 1) : Int).toNat) < (2 ^ n : Nat) ∧ inL (((H ((H (v0 : Int).toNat 3) : Int).toNat ((v1 + v2) : Int).toNat) * 1073741824) + (H ((H (v0 : Int).toNat 3) : Int).toNat (((v1 + v2) - 1) : Int).toNat))) ∧ (inI (v2 - 1)) ∧ ((0 : Int) ≤ (H (v0 : Int).toNat 4)) ∧ ∃ n16 : Nat, (K[((H (v0 : Int).toNat 4) : Int).toNat]? = some (20, n16)) ∧ ((0 : Int) ≤ (v2 - 1)) ∧ (((v2 - 1) : Int) < n16) ∧ (((H ((H (v0 : Int).toNat 4) : Int).toNat ((v2 - 1) : Int).toNat) : Int) ≠ 0) ∧ (inL (Int.tdiv (((H ((H (v0 : Int).toNat 3) : Int).toNat ((v1 + v2) : Int).toNat) * 1073741824) + (H ((H (v0 : Int).toNat 3) : Int).toNat (((v1 + v2) - 1) : Int).toNat)) (H ((H (v0 : Int).toNat 4) : Int).toNat ((v2 - 1) : Int).toNat))) ∧ FX12_step_53 d K H q (v0) (v1) (v2) ((min (Int.tdiv (((H ((H (v0 : Int).toNat 3) : Int).toNat ((v1 + v2) : Int).toNat) * 1073741824) + (H ((H (v0 : Int).toNat 3) : Int).toNat (((v1 + v2) - 1) : Int).toNat)) (H ((H (v0 : Int).toNat 4) : Int).toNat ((v2 - 1) : Int).toNat)) 1073741823)) (0) (0) (0)) : FX12_step_0 d K H q (v0) (v1) (v2) := by
  unfold FX12_step_0
  refine r_aload_n 0 dX12_step_0 rfl rfl ?_
  obtain ⟨h1, h⟩ := h
  obtain ⟨h2, h⟩ := h
  refine r_getf cls12 3 dX12_step_1 (by decide) fl_RX12_13 rfl h1 h2 ?_
  refine r_iload_n 1 dX12_step_4 rfl rfl ?_
  refine r_iload_n 2 dX12_step_5 rfl rfl ?_
  obtain ⟨h3, h⟩ := h
  refine r_iadd dX12_step_6 h3 ?_
  obtain ⟨h4, h⟩ := h
  obtain ⟨n5, h⟩ := h
  obtain ⟨h6, h⟩ := h
  obtain ⟨h7, h⟩ := h
  obtain ⟨h8, h⟩ := h
  refine r_iald n5 dX12_step_7 h4 h6 h7 h8 ?_
  refine r_i2l dX12_step_8 ?_
  refine r_bipush dX12_step_9 (by decide) (by decide) ?_
  obtain ⟨h9, h⟩ := h
  refine r_lshl30 dX12_step_11 h9 ?_
  refine r_aload_n 0 dX12_step_12 rfl rfl ?_
  refine r_getf cls12 3 dX12_step_13 (by decide) fl_RX12_13 rfl h1 h2 ?_
  refine r_iload_n 1 dX12_step_16 rfl rfl ?_
  refine r_iload_n 2 dX12_step_17 rfl rfl ?_
  refine r_iadd dX12_step_18 h3 ?_
  refine r_iconst dX12_step_19 (by decide) (by decide) ?_
  obtain ⟨h10, h⟩ := h
  refine r_isub dX12_step_20 h10 ?_
  obtain ⟨h11, h⟩ := h
  obtain ⟨h12, h⟩ := h
  refine r_iald n5 dX12_step_21 h4 h6 h11 h12 ?_
  refine r_i2l dX12_step_22 ?_
  obtain ⟨h13, h⟩ := h
  obtain ⟨nh13, h13a, h13b, h13c, h13d, h13e⟩ := h13
  refine r_lor nh13 dX12_step_23 h13a h13b h13c h13d h13e ?_
  refine r_lstore_n dX12_step_24 rfl (by decide) rfl ?_
  refine r_lload_n 0 dX12_step_25 rfl rfl ?_
  refine r_aload_n 1 dX12_step_26 rfl rfl ?_
  refine r_getf cls12 4 dX12_step_27 (by decide) fl_RX12_16 rfl h1 h2 ?_
  refine r_iload_n 3 dX12_step_30 rfl rfl ?_
  refine r_iconst dX12_step_31 (by decide) (by decide) ?_
  obtain ⟨h14, h⟩ := h
  refine r_isub dX12_step_32 h14 ?_
  obtain ⟨h15, h⟩ := h
  obtain ⟨n16, h⟩ := h
  obtain ⟨h17, h⟩ := h
  obtain ⟨h18, h⟩ := h
  obtain ⟨h19, h⟩ := h
  refine r_iald n16 dX12_step_33 h15 h17 h18 h19 ?_
  refine r_i2l dX12_step_34 ?_
  obtain ⟨h20, h⟩ := h
  obtain ⟨h21, h⟩ := h
  refine r_ldiv dX12_step_35 h20 h21 ?_
  refine r_ldc2 (x := 1073741823) dX12_step_36 kl_RX12_100 (by decide) (by decide) ?_
  refine r_minl dX12_step_39 ml_RX12_149 (Nat.le_of_ble_eq_true rfl) ?_
  refine r_lstore dX12_step_42 (by decide) rfl ?_
  refine r_lconst0 dX12_step_44 ?_
  refine r_lstore dX12_step_45 (by decide) rfl ?_
  refine r_lconst0 dX12_step_47 ?_
  refine r_lstore dX12_step_48 (by decide) rfl ?_
  refine r_iconst dX12_step_50 (by decide) (by decide) ?_
  refine r_istore dX12_step_51 (by decide) rfl ?_
  refine Fr.fewer [5, 6, 7, 3, 2, 1, 0] rfl ?_
  exact h
set_option maxRecDepth 20000 in
theorem bX12_step_53 {d : Nat} {K : Shp} {H : Mem} {q : Int → Mem → Prop} {v0 v1 v2 v5 v7 v9 v11 : Int} (h : ((¬ (v11 : Int) < v2 → ((0 : Int) ≤ v0) ∧ (K[(v0 : Int).toNat]? = some (12, 51)) ∧ (inI (v1 + v2)) ∧ ((0 : Int) ≤ (H (v0 : Int).toNat 3)) ∧ ∃ n6 : Nat, (K[((H (v0 : Int).toNat 3) : Int).toNat]? = some (20, n6)) ∧ ((0 : Int) ≤ (v1 + v2)) ∧ (((v1 + v2) : Int) < n6) ∧ (inL ((H ((H (v0 : Int).toNat 3) : Int).toNat ((v1 + v2) : Int).toNat) - v7)) ∧ (inL (((H ((H (v0 : Int).toNat 3) : Int).toNat ((v1 + v2) : Int).toNat) - v7) - v9)) ∧ FX12_step_157 d K H q (v0) (v1) (v2) (v5) ((((H ((H (v0 : Int).toNat 3) : Int).toNat ((v1 + v2) : Int).toNat) - v7) - v9))) ∧ ((v11 : Int) < v2 → ((0 : Int) ≤ v0) ∧ (K[(v0 : Int).toNat]? = some (12, 51)) ∧ ((0 : Int) ≤ (H (v0 : Int).toNat 4)) ∧ ∃ n15 : Nat, (K[((H (v0 : Int).toNat 4) : Int).toNat]? = some (20, n15)) ∧ ((0 : Int) ≤ v11) ∧ ((v11 : Int) < n15) ∧ (inL (v5 * (H ((H (v0 : Int).toNat 4) : Int).toNat (v11 : Int).toNat))) ∧ (inL (v7 + (v5 * (H ((H (v0 : Int).toNat 4) : Int).toNat (v11 : Int).toNat)))) ∧ (inI (v1 + v11)) ∧ ((0 : Int) ≤ (H (v0 : Int).toNat 3)) ∧ ∃ n23 : Nat, (K[((H (v0 : Int).toNat 3) : Int).toNat]? = some (20, n23)) ∧ ((0 : Int) ≤ (v1 + v11)) ∧ (((v1 + v11) : Int) < n23) ∧ (inL ((H ((H (v0 : Int).toNat 3) : Int).toNat ((v1 + v11) : Int).toNat) - ((v7 + (v5 * (H ((H (v0 : Int).toNat 4) : Int).toNat (v11 : Int).toNat))) % 1073741824))) ∧ (inL (((H ((H (v0 : Int).toNat 3) : Int).toNat ((v1 + v11) : Int).toNat) - ((v7 + (v5 * (H ((H (v0 : Int).toNat 4) : Int).toNat (v11 : Int).toNat))) % 1073741824)) - v9)) ∧ ((0 : Int) ≤ (v7 + (v5 * (H ((H (v0 : Int).toNat 4) : Int).toNat (v11 : Int).toNat)))) ∧ ((¬ ((((H ((H (v0 : Int).toNat 3) : Int).toNat ((v1 + v11) : Int).toNat) - ((v7 + (v5 * (H ((H (v0 : Int).toNat 4) : Int).toNat (v11 : Int).toNat))) % 1073741824)) - v9) : Int) < 0 → (inI ((((H ((H (v0 : Int).toNat 3) : Int).toNat ((v1 + v11) : Int).toNat) - ((v7 + (v5 * (H ((H (v0 : Int).toNat 4) : Int).toNat (v11 : Int).toNat))) % 1073741824)) - v9) % 1073741824)) ∧ ∀ H32 : Mem, H32 = upA H ((H (v0 : Int).toNat 3) : Int).toNat (up1 (H ((H (v0 : Int).toNat 3) : Int).toNat) ((v1 + v11) : Int).toNat ((((H ((H (v0 : Int).toNat 3) : Int).toNat ((v1 + v11) : Int).toNat) - ((v7 + (v5 * (H ((H (v0 : Int).toNat 4) : Int).toNat (v11 : Int).toNat))) % 1073741824)) - v9) % 1073741824)) → (inI (v11 + 1)) ∧ FX12_step_53 d K H32 q (v0) (v1) (v2) (v5) (((v7 + (v5 * (H ((H (v0 : Int).toNat 4) : Int).toNat (v11 : Int).toNat))) / 1073741824)) (0) ((v11 + 1))) ∧ (((((H ((H (v0 : Int).toNat 3) : Int).toNat ((v1 + v11) : Int).toNat) - ((v7 + (v5 * (H ((H (v0 : Int).toNat 4) : Int).toNat (v11 : Int).toNat))) % 1073741824)) - v9) : Int) < 0 → (inI ((((H ((H (v0 : Int).toNat 3) : Int).toNat ((v1 + v11) : Int).toNat) - ((v7 + (v5 * (H ((H (v0 : Int).toNat 4) : Int).toNat (v11 : Int).toNat))) % 1073741824)) - v9) % 1073741824)) ∧ ∀ H35 : Mem, H35 = upA H ((H (v0 : Int).toNat 3) : Int).toNat (up1 (H ((H (v0 : Int).toNat 3) : Int).toNat) ((v1 + v11) : Int).toNat ((((H ((H (v0 : Int).toNat 3) : Int).toNat ((v1 + v11) : Int).toNat) - ((v7 + (v5 * (H ((H (v0 : Int).toNat 4) : Int).toNat (v11 : Int).toNat))) % 1073741824)) - v9) % 1073741824)) → (inI (v11 + 1)) ∧ FX12_step_53 d K H35 q (v0) (v1) (v2) (v5) (((v7 + (v5 * (H ((H (v0 : Int).toNat 4) : Int).toNat (v11 : Int).toNat))) / 1073741824)) (1) ((v11 + 1))))))) : FX12_step_53 d K H q (v0) (v1) (v2) (v5) (v7) (v9) (v11) := by
  unfold FX12_step_53
  refine r_iload 6 dX12_step_53 rfl ?_
  refine r_iload_n 2 dX12_step_55 rfl rfl ?_
  refine r_icmp_ge (tgt := 140) dX12_step_56 (by decide) (fun c1 => ?_) (fun c1 => ?_)
  · replace h := h.1 c1
    refine r_aload_n 0 dX12_step_140 rfl rfl ?_
    obtain ⟨h2, h⟩ := h
    obtain ⟨h3, h⟩ := h
    refine r_getf cls12 3 dX12_step_141 (by decide) fl_RX12_13 rfl h2 h3 ?_
    refine r_iload_n 1 dX12_step_144 rfl rfl ?_
    refine r_iload_n 2 dX12_step_145 rfl rfl ?_
    obtain ⟨h4, h⟩ := h
    refine r_iadd dX12_step_146 h4 ?_
    obtain ⟨h5, h⟩ := h
    obtain ⟨n6, h⟩ := h
    obtain ⟨h7, h⟩ := h
    obtain ⟨h8, h⟩ := h
    obtain ⟨h9, h⟩ := h
    refine r_iald n6 dX12_step_147 h5 h7 h8 h9 ?_
    refine r_i2l dX12_step_148 ?_
    refine r_lload 4 dX12_step_149 rfl ?_
    obtain ⟨h10, h⟩ := h
    refine r_lsub dX12_step_151 h10 ?_
    refine r_lload 5 dX12_step_152 rfl ?_
    obtain ⟨h11, h⟩ := h
    refine r_lsub dX12_step_154 h11 ?_
    refine r_lstore dX12_step_155 (by decide) rfl ?_
    refine Fr.fewer [1, 2, 3, 4, 0] rfl ?_
    exact h
  · replace h := h.2 c1
    refine r_lload 4 dX12_step_59 rfl ?_
    refine r_lload 3 dX12_step_61 rfl ?_
    refine r_aload_n 0 dX12_step_63 rfl rfl ?_
    obtain ⟨h12, h⟩ := h
    obtain ⟨h13, h⟩ := h
    refine r_getf cls12 4 dX12_step_64 (by decide) fl_RX12_16 rfl h12 h13 ?_
    refine r_iload 6 dX12_step_67 rfl ?_
    obtain ⟨h14, h⟩ := h
    obtain ⟨n15, h⟩ := h
    obtain ⟨h16, h⟩ := h
    obtain ⟨h17, h⟩ := h
    obtain ⟨h18, h⟩ := h
    refine r_iald n15 dX12_step_69 h14 h16 h17 h18 ?_
    refine r_i2l dX12_step_70 ?_
    obtain ⟨h19, h⟩ := h
    refine r_lmul dX12_step_71 h19 ?_
    obtain ⟨h20, h⟩ := h
    refine r_ladd dX12_step_72 h20 ?_
    refine r_lstore dX12_step_73 (by decide) rfl ?_
    refine r_aload_n 1 dX12_step_75 rfl rfl ?_
    refine r_getf cls12 3 dX12_step_76 (by decide) fl_RX12_13 rfl h12 h13 ?_
    refine r_iload_n 2 dX12_step_79 rfl rfl ?_
    refine r_iload 6 dX12_step_80 rfl ?_
    obtain ⟨h21, h⟩ := h
    refine r_iadd dX12_step_82 h21 ?_
    obtain ⟨h22, h⟩ := h
    obtain ⟨n23, h⟩ := h
    obtain ⟨h24, h⟩ := h
    obtain ⟨h25, h⟩ := h
    obtain ⟨h26, h⟩ := h
    refine r_iald n23 dX12_step_83 h22 h24 h25 h26 ?_
    refine r_i2l dX12_step_84 ?_
    refine r_lload 0 dX12_step_85 rfl ?_
    refine r_ldc2 (x := 1073741823) dX12_step_87 kl_RX12_100 (by decide) (by decide) ?_
    refine r_land30 dX12_step_90 ?_
    obtain ⟨h27, h⟩ := h
    refine r_lsub dX12_step_91 h27 ?_
    refine r_lload 5 dX12_step_92 rfl ?_
    obtain ⟨h28, h⟩ := h
    refine r_lsub dX12_step_94 h28 ?_
    refine r_lstore dX12_step_95 (by decide) rfl ?_
    refine r_lload 1 dX12_step_97 rfl ?_
    refine r_bipush dX12_step_99 (by decide) (by decide) ?_
    obtain ⟨h29, h⟩ := h
    refine r_lushr30 dX12_step_101 h29 ?_
    refine r_lstore dX12_step_102 (by decide) rfl ?_
    refine r_lload 1 dX12_step_104 rfl ?_
    refine r_lconst0 dX12_step_106 ?_
    refine r_lcmp dX12_step_107 ?_
    refine r_if_ge (tgt := 115) dX12_step_108 (by decide) (fun c30 => ?_) (fun c30 => ?_)
    · replace h := h.1 (fun q => c30 (cmpL_lt.mpr q))
      refine r_lconst0 dX12_step_115 ?_
      refine r_lstore dX12_step_116 (by decide) rfl ?_
      refine r_aload_n 3 dX12_step_118 rfl rfl ?_
      refine r_getf cls12 3 dX12_step_119 (by decide) fl_RX12_13 rfl h12 h13 ?_
      refine r_iload_n 4 dX12_step_122 rfl rfl ?_
      refine r_iload 7 dX12_step_123 rfl ?_
      refine r_iadd dX12_step_125 h21 ?_
      refine r_lload 2 dX12_step_126 rfl ?_
      refine r_ldc2 (x := 1073741823) dX12_step_128 kl_RX12_100 (by decide) (by decide) ?_
      refine r_land30 dX12_step_131 ?_
      obtain ⟨h31, h⟩ := h
      refine r_l2i dX12_step_132 h31 ?_
      refine r_iast n23 dX12_step_133 h22 h24 h25 h26 ?_
      replace h := h _ rfl
      generalize upA H ((H (v0 : Int).toNat 3) : Int).toNat (up1 (H ((H (v0 : Int).toNat 3) : Int).toNat) ((v1 + v11) : Int).toNat ((((H ((H (v0 : Int).toNat 3) : Int).toNat ((v1 + v11) : Int).toNat) - ((v7 + (v5 * (H ((H (v0 : Int).toNat 4) : Int).toNat (v11 : Int).toNat))) % 1073741824)) - v9) % 1073741824)) = H32 at h ⊢
      obtain ⟨h33, h⟩ := h
      refine r_iinc 7 dX12_step_134 (by decide) rfl h33 rfl ?_
      refine r_goto (tgt := 53) dX12_step_137 (by decide) ?_
      refine Fr.fewer [4, 5, 6, 7, 2, 1, 0] rfl ?_
      exact h
    · replace h := h.2 (cmpL_lt.mp c30)
      refine r_lconst1 dX12_step_111 ?_
      refine r_goto (tgt := 116) dX12_step_112 (by decide) ?_
      refine r_lstore dX12_step_116 (by decide) rfl ?_
      refine r_aload_n 3 dX12_step_118 rfl rfl ?_
      refine r_getf cls12 3 dX12_step_119 (by decide) fl_RX12_13 rfl h12 h13 ?_
      refine r_iload_n 4 dX12_step_122 rfl rfl ?_
      refine r_iload 7 dX12_step_123 rfl ?_
      refine r_iadd dX12_step_125 h21 ?_
      refine r_lload 2 dX12_step_126 rfl ?_
      refine r_ldc2 (x := 1073741823) dX12_step_128 kl_RX12_100 (by decide) (by decide) ?_
      refine r_land30 dX12_step_131 ?_
      obtain ⟨h34, h⟩ := h
      refine r_l2i dX12_step_132 h34 ?_
      refine r_iast n23 dX12_step_133 h22 h24 h25 h26 ?_
      replace h := h _ rfl
      generalize upA H ((H (v0 : Int).toNat 3) : Int).toNat (up1 (H ((H (v0 : Int).toNat 3) : Int).toNat) ((v1 + v11) : Int).toNat ((((H ((H (v0 : Int).toNat 3) : Int).toNat ((v1 + v11) : Int).toNat) - ((v7 + (v5 * (H ((H (v0 : Int).toNat 4) : Int).toNat (v11 : Int).toNat))) % 1073741824)) - v9) % 1073741824)) = H35 at h ⊢
      obtain ⟨h36, h⟩ := h
      refine r_iinc 7 dX12_step_134 (by decide) rfl h36 rfl ?_
      refine r_goto (tgt := 53) dX12_step_137 (by decide) ?_
      refine Fr.fewer [4, 5, 6, 7, 2, 1, 0] rfl ?_
      exact h
set_option maxRecDepth 20000 in
theorem bX12_step_157 {d : Nat} {K : Shp} {H : Mem} {q : Int → Mem → Prop} {v0 v1 v2 v5 v11 : Int} (h : ((¬ (v11 : Int) < 0 → ((0 : Int) ≤ v0) ∧ (K[(v0 : Int).toNat]? = some (12, 51)) ∧ (inI (v1 + v2)) ∧ (inI v11) ∧ ((0 : Int) ≤ (H (v0 : Int).toNat 3)) ∧ ∃ n7 : Nat, (K[((H (v0 : Int).toNat 3) : Int).toNat]? = some (20, n7)) ∧ ((0 : Int) ≤ (v1 + v2)) ∧ (((v1 + v2) : Int) < n7) ∧ ∀ H11 : Mem, H11 = upA H ((H (v0 : Int).toNat 3) : Int).toNat (up1 (H ((H (v0 : Int).toNat 3) : Int).toNat) ((v1 + v2) : Int).toNat v11) → (inI v5) ∧ q v5 H11) ∧ ((v11 : Int) < 0 → (inL (v5 - 1)) ∧ FX12_step_176 d K H q (v0) (v1) (v2) ((v5 - 1)) (v11) (0) (0)))) : FX12_step_157 d K H q (v0) (v1) (v2) (v5) (v11) := by
  unfold FX12_step_157
  refine r_lload 4 dX12_step_157 rfl ?_
  refine r_lconst0 dX12_step_159 ?_
  refine r_lcmp dX12_step_160 ?_
  refine r_if_ge (tgt := 245) dX12_step_161 (by decide) (fun c1 => ?_) (fun c1 => ?_)
  · replace h := h.1 (fun q => c1 (cmpL_lt.mpr q))
    refine r_aload_n 0 dX12_step_245 rfl rfl ?_
    obtain ⟨h2, h⟩ := h
    obtain ⟨h3, h⟩ := h
    refine r_getf cls12 3 dX12_step_246 (by decide) fl_RX12_13 rfl h2 h3 ?_
    refine r_iload_n 1 dX12_step_249 rfl rfl ?_
    refine r_iload_n 2 dX12_step_250 rfl rfl ?_
    obtain ⟨h4, h⟩ := h
    refine r_iadd dX12_step_251 h4 ?_
    refine r_lload 4 dX12_step_252 rfl ?_
    obtain ⟨h5, h⟩ := h
    refine r_l2i dX12_step_254 h5 ?_
    obtain ⟨h6, h⟩ := h
    obtain ⟨n7, h⟩ := h
    obtain ⟨h8, h⟩ := h
    obtain ⟨h9, h⟩ := h
    obtain ⟨h10, h⟩ := h
    refine r_iast n7 dX12_step_255 h6 h8 h9 h10 ?_
    replace h := h _ rfl
    generalize upA H ((H (v0 : Int).toNat 3) : Int).toNat (up1 (H ((H (v0 : Int).toNat 3) : Int).toNat) ((v1 + v2) : Int).toNat v11) = H11 at h ⊢
    refine r_lload 3 dX12_step_256 rfl ?_
    obtain ⟨h12, h⟩ := h
    refine r_l2i dX12_step_258 h12 ?_
    exact r_iret dX12_step_259 rfl ⟨rfl, _, rfl, h⟩
  · replace h := h.2 (cmpL_lt.mp c1)
    refine r_lload 3 dX12_step_164 rfl ?_
    refine r_lconst1 dX12_step_166 ?_
    obtain ⟨h13, h⟩ := h
    refine r_lsub dX12_step_167 h13 ?_
    refine r_lstore dX12_step_168 (by decide) rfl ?_
    refine r_lconst0 dX12_step_170 ?_
    refine r_lstore dX12_step_171 (by decide) rfl ?_
    refine r_iconst dX12_step_173 (by decide) (by decide) ?_
    refine r_istore dX12_step_174 (by decide) rfl ?_
    refine Fr.fewer [3, 4, 5, 2, 6, 1, 0] rfl ?_
    exact h
set_option maxRecDepth 20000 in
theorem bX12_step_176 {d : Nat} {K : Shp} {H : Mem} {q : Int → Mem → Prop} {v0 v1 v2 v5 v11 v13 v15 : Int} (h : ((¬ (v15 : Int) < v2 → (inL (v11 + v13)) ∧ FX12_step_157 d K H q (v0) (v1) (v2) (v5) ((v11 + v13))) ∧ ((v15 : Int) < v2 → ((0 : Int) ≤ v0) ∧ (K[(v0 : Int).toNat]? = some (12, 51)) ∧ (inI (v1 + v15)) ∧ ((0 : Int) ≤ (H (v0 : Int).toNat 3)) ∧ ∃ n7 : Nat, (K[((H (v0 : Int).toNat 3) : Int).toNat]? = some (20, n7)) ∧ ((0 : Int) ≤ (v1 + v15)) ∧ (((v1 + v15) : Int) < n7) ∧ ((0 : Int) ≤ (H (v0 : Int).toNat 4)) ∧ ∃ n12 : Nat, (K[((H (v0 : Int).toNat 4) : Int).toNat]? = some (20, n12)) ∧ ((0 : Int) ≤ v15) ∧ ((v15 : Int) < n12) ∧ (inL ((H ((H (v0 : Int).toNat 3) : Int).toNat ((v1 + v15) : Int).toNat) + (H ((H (v0 : Int).toNat 4) : Int).toNat (v15 : Int).toNat))) ∧ (inL (v13 + ((H ((H (v0 : Int).toNat 3) : Int).toNat ((v1 + v15) : Int).toNat) + (H ((H (v0 : Int).toNat 4) : Int).toNat (v15 : Int).toNat)))) ∧ (inI ((v13 + ((H ((H (v0 : Int).toNat 3) : Int).toNat ((v1 + v15) : Int).toNat) + (H ((H (v0 : Int).toNat 4) : Int).toNat (v15 : Int).toNat))) % 1073741824)) ∧ ∀ H19 : Mem, H19 = upA H ((H (v0 : Int).toNat 3) : Int).toNat (up1 (H ((H (v0 : Int).toNat 3) : Int).toNat) ((v1 + v15) : Int).toNat ((v13 + ((H ((H (v0 : Int).toNat 3) : Int).toNat ((v1 + v15) : Int).toNat) + (H ((H (v0 : Int).toNat 4) : Int).toNat (v15 : Int).toNat))) % 1073741824)) → ((0 : Int) ≤ (v13 + ((H ((H (v0 : Int).toNat 3) : Int).toNat ((v1 + v15) : Int).toNat) + (H ((H (v0 : Int).toNat 4) : Int).toNat (v15 : Int).toNat)))) ∧ (inI (v15 + 1)) ∧ FX12_step_176 d K H19 q (v0) (v1) (v2) (v5) (v11) (((v13 + ((H ((H (v0 : Int).toNat 3) : Int).toNat ((v1 + v15) : Int).toNat) + (H ((H (v0 : Int).toNat 4) : Int).toNat (v15 : Int).toNat))) / 1073741824)) ((v15 + 1))))) : FX12_step_176 d K H q (v0) (v1) (v2) (v5) (v11) (v13) (v15) := by
  unfold FX12_step_176
  refine r_iload 6 dX12_step_176 rfl ?_
  refine r_iload_n 2 dX12_step_178 rfl rfl ?_
  refine r_icmp_ge (tgt := 235) dX12_step_179 (by decide) (fun c1 => ?_) (fun c1 => ?_)
  · replace h := h.1 c1
    refine r_lload 4 dX12_step_235 rfl ?_
    refine r_lload 5 dX12_step_237 rfl ?_
    obtain ⟨h2, h⟩ := h
    refine r_ladd dX12_step_239 h2 ?_
    refine r_lstore dX12_step_240 (by decide) rfl ?_
    refine r_goto (tgt := 157) dX12_step_242 (by decide) ?_
    refine Fr.fewer [1, 2, 3, 4, 0] rfl ?_
    exact h
  · replace h := h.2 c1
    refine r_lload 5 dX12_step_182 rfl ?_
    refine r_aload_n 0 dX12_step_184 rfl rfl ?_
    obtain ⟨h3, h⟩ := h
    obtain ⟨h4, h⟩ := h
    refine r_getf cls12 3 dX12_step_185 (by decide) fl_RX12_13 rfl h3 h4 ?_
    refine r_iload_n 1 dX12_step_188 rfl rfl ?_
    refine r_iload 6 dX12_step_189 rfl ?_
    obtain ⟨h5, h⟩ := h
    refine r_iadd dX12_step_191 h5 ?_
    obtain ⟨h6, h⟩ := h
    obtain ⟨n7, h⟩ := h
    obtain ⟨h8, h⟩ := h
    obtain ⟨h9, h⟩ := h
    obtain ⟨h10, h⟩ := h
    refine r_iald n7 dX12_step_192 h6 h8 h9 h10 ?_
    refine r_i2l dX12_step_193 ?_
    refine r_aload_n 0 dX12_step_194 rfl rfl ?_
    refine r_getf cls12 4 dX12_step_195 (by decide) fl_RX12_16 rfl h3 h4 ?_
    refine r_iload 6 dX12_step_198 rfl ?_
    obtain ⟨h11, h⟩ := h
    obtain ⟨n12, h⟩ := h
    obtain ⟨h13, h⟩ := h
    obtain ⟨h14, h⟩ := h
    obtain ⟨h15, h⟩ := h
    refine r_iald n12 dX12_step_200 h11 h13 h14 h15 ?_
    refine r_i2l dX12_step_201 ?_
    obtain ⟨h16, h⟩ := h
    refine r_ladd dX12_step_202 h16 ?_
    obtain ⟨h17, h⟩ := h
    refine r_ladd dX12_step_203 h17 ?_
    refine r_lstore dX12_step_204 (by decide) rfl ?_
    refine r_aload_n 1 dX12_step_206 rfl rfl ?_
    refine r_getf cls12 3 dX12_step_207 (by decide) fl_RX12_13 rfl h3 h4 ?_
    refine r_iload_n 2 dX12_step_210 rfl rfl ?_
    refine r_iload 6 dX12_step_211 rfl ?_
    refine r_iadd dX12_step_213 h5 ?_
    refine r_lload 0 dX12_step_214 rfl ?_
    refine r_ldc2 (x := 1073741823) dX12_step_216 kl_RX12_100 (by decide) (by decide) ?_
    refine r_land30 dX12_step_219 ?_
    obtain ⟨h18, h⟩ := h
    refine r_l2i dX12_step_220 h18 ?_
    refine r_iast n7 dX12_step_221 h6 h8 h9 h10 ?_
    replace h := h _ rfl
    generalize upA H ((H (v0 : Int).toNat 3) : Int).toNat (up1 (H ((H (v0 : Int).toNat 3) : Int).toNat) ((v1 + v15) : Int).toNat ((v13 + ((H ((H (v0 : Int).toNat 3) : Int).toNat ((v1 + v15) : Int).toNat) + (H ((H (v0 : Int).toNat 4) : Int).toNat (v15 : Int).toNat))) % 1073741824)) = H19 at h ⊢
    refine r_lload 0 dX12_step_222 rfl ?_
    refine r_bipush dX12_step_224 (by decide) (by decide) ?_
    obtain ⟨h20, h⟩ := h
    refine r_lushr30 dX12_step_226 h20 ?_
    refine r_lstore dX12_step_227 (by decide) rfl ?_
    obtain ⟨h21, h⟩ := h
    refine r_iinc 6 dX12_step_229 (by decide) rfl h21 rfl ?_
    refine r_goto (tgt := 176) dX12_step_232 (by decide) ?_
    refine Fr.fewer [2, 3, 4, 5, 6, 1, 0] rfl ?_
    exact h
set_option maxRecDepth 20000 in
theorem eX12_step {d : Nat} {K : Shp} {H : Mem} {q : Int → Mem → Prop} {v0 v1 v2 : Int} (h : inI v1 → inI v2 → Rng K H → FX12_step_0 d K H q v0 v1 v2) : Ci mX12_step (d + 1) [(2, v0), (0, v1), (0, v2)] K H q := Call.of rfl (Nat.le_of_ble_eq_true rfl) (fun o r => h (o (0, v1) (by simp)) (o (0, v2) (by simp)) r)
def FX12_divided_0 (d : Nat) (K : Shp) (H : Mem) (q : Int → Mem → Prop) (v0 : Int) (v1 : Int) (v2 : Int) : Prop := Fr mX12_divided (d + 1) 0 0 none 0 [(0, (2, v0)), (1, (0, v1)), (2, (0, v2))] [] K H (qi K q)
def FX12_divided_18 (d : Nat) (K : Shp) (H : Mem) (q : Int → Mem → Prop) (v0 : Int) (v1 : Int) (v2 : Int) (v3 : Int) (v4 : Int) : Prop := Fr mX12_divided (d + 1) 0 0 none 18 [(0, (2, v0)), (1, (0, v1)), (2, (0, v2)), (3, (0, v3)), (4, (0, v4))] [] K H (qi K q)
set_option maxRecDepth 20000 in
theorem bX12_divided_0 {d : Nat} {K : Shp} {H : Mem} {q : Int → Mem → Prop} {v0 v1 v2 : Int} (h : ((0 : Int) ≤ v0) ∧ (K[(v0 : Int).toNat]? = some (12, 51)) ∧ Cv mX12_divide d [(2, v0), (0, v1), (0, v2)] K H (fun H3 => Ci mX12_room d [(2, v0), (0, (H3 (v0 : Int).toNat 7))] K H3 (fun x6 H5 => FX12_divided_18 d K H5 q (v0) (v1) (v2) (x6) (0)))) : FX12_divided_0 d K H q (v0) (v1) (v2) := by
  unfold FX12_divided_0
  refine r_aload_n 0 dX12_divided_0 rfl rfl ?_
  refine r_iload_n 1 dX12_divided_1 rfl rfl ?_
  refine r_iload_n 2 dX12_divided_2 rfl rfl ?_
  obtain ⟨h1, h⟩ := h
  obtain ⟨h2, h⟩ := h
  refine r_invV (M := mX12_divided) (As := [(0, v1), (0, v2)]) (st := []) (X := v0) (mc := 0) (ms := 0) (fc := 0) (fs := 0) h ok_X12_divide cls12 im_X12_divide se_X12_divide ml_RX12_153 dX12_divided_3 rfl h1 h2 (Nat.le_of_ble_eq_true rfl) rfl ?_
  rintro r K1 H3 ⟨rfl, rfl, h⟩ -
  show Fr mX12_divided (d + 1) 0 0 none 6 [(0, (2, v0)), (1, (0, v1)), (2, (0, v2))] [] _ H3 _
  refine r_aload_n 0 dX12_divided_6 rfl rfl ?_
  refine r_aload_n 0 dX12_divided_7 rfl rfl ?_
  refine r_getf cls12 7 dX12_divided_8 (by decide) fl_RX12_138 rfl h1 h2 ?_
  refine r_invV (M := mX12_divided) (As := [(0, (H3 (v0 : Int).toNat 7))]) (st := []) (X := v0) (mc := 0) (ms := 0) (fc := 0) (fs := 0) h ok_X12_room cls12 im_X12_room se_X12_room ml_RX12_96 dX12_divided_11 rfl h1 h2 (Nat.le_of_ble_eq_true rfl) rfl ?_
  rintro r K1 H5 ⟨rfl, x6, rfl, h⟩ -
  show Fr mX12_divided (d + 1) 0 0 none 14 [(0, (2, v0)), (1, (0, v1)), (2, (0, v2))] [(0, x6)] _ H5 _
  refine r_istore_n dX12_divided_14 rfl (by decide) rfl ?_
  refine r_iconst dX12_divided_15 (by decide) (by decide) ?_
  refine r_istore dX12_divided_16 (by decide) rfl ?_
  refine Fr.fewer [2, 3, 4, 1, 0] rfl ?_
  exact h
set_option maxRecDepth 20000 in
theorem bX12_divided_18 {d : Nat} {K : Shp} {H : Mem} {q : Int → Mem → Prop} {v0 v1 v2 v3 v4 : Int} (h : ((0 : Int) ≤ v0) ∧ (K[(v0 : Int).toNat]? = some (12, 51)) ∧ ((¬ (v4 : Int) < (H (v0 : Int).toNat 7) → Ci mX12_sign d [(2, v0), (0, v1)] K H (fun x5 H4 => Ci mX12_sign d [(2, v0), (0, v2)] K H4 (fun x7 H6 => (((x5 : Int) = x7 → Ci mX12_done d [(2, v0), (0, v3), (0, (H (v0 : Int).toNat 7)), (0, 0)] K H6 (fun x10 H9 => q x10 H9)) ∧ (¬ (x5 : Int) = x7 → ((((H6 (v0 : Int).toNat 7) : Int) ≤ 0 → Ci mX12_done d [(2, v0), (0, v3), (0, (H (v0 : Int).toNat 7)), (0, 0)] K H6 (fun x13 H12 => q x13 H12)) ∧ (¬ ((H6 (v0 : Int).toNat 7) : Int) ≤ 0 → Ci mX12_done d [(2, v0), (0, v3), (0, (H (v0 : Int).toNat 7)), (0, 1)] K H6 (fun x15 H14 => q x15 H14)))))))) ∧ ((v4 : Int) < (H (v0 : Int).toNat 7) → (inI (v3 + 1)) ∧ (inI ((v3 + 1) + v4)) ∧ ((0 : Int) ≤ (H (v0 : Int).toNat 5)) ∧ ∃ n19 : Nat, (K[((H (v0 : Int).toNat 5) : Int).toNat]? = some (20, n19)) ∧ ((0 : Int) ≤ v4) ∧ ((v4 : Int) < n19) ∧ ((0 : Int) ≤ (H (v0 : Int).toNat 1)) ∧ ∃ n24 : Nat, (K[((H (v0 : Int).toNat 1) : Int).toNat]? = some (20, n24)) ∧ ((0 : Int) ≤ ((v3 + 1) + v4)) ∧ ((((v3 + 1) + v4) : Int) < n24) ∧ ∀ H28 : Mem, H28 = upA H ((H (v0 : Int).toNat 1) : Int).toNat (up1 (H ((H (v0 : Int).toNat 1) : Int).toNat) (((v3 + 1) + v4) : Int).toNat (H ((H (v0 : Int).toNat 5) : Int).toNat (v4 : Int).toNat)) → (inI (v4 + 1)) ∧ FX12_divided_18 d K H28 q (v0) (v1) (v2) (v3) ((v4 + 1))))) : FX12_divided_18 d K H q (v0) (v1) (v2) (v3) (v4) := by
  unfold FX12_divided_18
  refine r_iload 4 dX12_divided_18 rfl ?_
  refine r_aload_n 0 dX12_divided_20 rfl rfl ?_
  obtain ⟨h1, h⟩ := h
  obtain ⟨h2, h⟩ := h
  refine r_getf cls12 7 dX12_divided_21 (by decide) fl_RX12_138 rfl h1 h2 ?_
  refine r_icmp_ge (tgt := 51) dX12_divided_24 (by decide) (fun c3 => ?_) (fun c3 => ?_)
  · replace h := h.1 c3
    refine r_aload_n 0 dX12_divided_51 rfl rfl ?_
    refine r_iload_n 3 dX12_divided_52 rfl rfl ?_
    refine r_aload_n 0 dX12_divided_53 rfl rfl ?_
    refine r_getf cls12 7 dX12_divided_54 (by decide) fl_RX12_138 rfl h1 h2 ?_
    refine r_aload_n 0 dX12_divided_57 rfl rfl ?_
    refine r_iload_n 1 dX12_divided_58 rfl rfl ?_
    refine r_invV (M := mX12_divided) (As := [(0, v1)]) (st := [(0, (H (v0 : Int).toNat 7)), (0, v3), (2, v0)]) (X := v0) (mc := 0) (ms := 0) (fc := 0) (fs := 0) h ok_X12_sign cls12 im_X12_sign se_X12_sign ml_RX12_112 dX12_divided_59 rfl h1 h2 (Nat.le_of_ble_eq_true rfl) rfl ?_
    rintro r K1 H4 ⟨rfl, x5, rfl, h⟩ -
    show Fr mX12_divided (d + 1) 0 0 none 62 [(0, (2, v0)), (1, (0, v1)), (2, (0, v2)), (3, (0, v3)), (4, (0, v4))] [(0, x5), (0, (H (v0 : Int).toNat 7)), (0, v3), (2, v0)] _ H4 _
    refine r_aload_n 0 dX12_divided_62 rfl rfl ?_
    refine r_iload_n 2 dX12_divided_63 rfl rfl ?_
    refine r_invV (M := mX12_divided) (As := [(0, v2)]) (st := [(0, x5), (0, (H (v0 : Int).toNat 7)), (0, v3), (2, v0)]) (X := v0) (mc := 0) (ms := 0) (fc := 0) (fs := 0) h ok_X12_sign cls12 im_X12_sign se_X12_sign ml_RX12_112 dX12_divided_64 rfl h1 h2 (Nat.le_of_ble_eq_true rfl) rfl ?_
    rintro r K1 H6 ⟨rfl, x7, rfl, h⟩ -
    show Fr mX12_divided (d + 1) 0 0 none 67 [(0, (2, v0)), (1, (0, v1)), (2, (0, v2)), (3, (0, v3)), (4, (0, v4))] [(0, x7), (0, x5), (0, (H (v0 : Int).toNat 7)), (0, v3), (2, v0)] _ H6 _
    refine r_icmp_eq (tgt := 81) dX12_divided_67 (by decide) (fun c8 => ?_) (fun c8 => ?_)
    · replace h := h.1 c8
      refine r_iconst dX12_divided_81 (by decide) (by decide) ?_
      refine r_invV (M := mX12_divided) (As := [(0, v3), (0, (H (v0 : Int).toNat 7)), (0, 0)]) (st := []) (X := v0) (mc := 0) (ms := 0) (fc := 0) (fs := 0) h ok_X12_done cls12 im_X12_done se_X12_done ml_RX12_102 dX12_divided_82 rfl h1 h2 (Nat.le_of_ble_eq_true rfl) rfl ?_
      rintro r K1 H9 ⟨rfl, x10, rfl, h⟩ -
      show Fr mX12_divided (d + 1) 0 0 none 85 [(0, (2, v0)), (1, (0, v1)), (2, (0, v2)), (3, (0, v3)), (4, (0, v4))] [(0, x10)] _ H9 _
      exact r_iret dX12_divided_85 rfl ⟨rfl, _, rfl, h⟩
    · replace h := h.2 c8
      refine r_aload_n 0 dX12_divided_70 rfl rfl ?_
      refine r_getf cls12 7 dX12_divided_71 (by decide) fl_RX12_138 rfl h1 h2 ?_
      refine r_if_le (tgt := 81) dX12_divided_74 (by decide) (fun c11 => ?_) (fun c11 => ?_)
      · replace h := h.1 c11
        refine r_iconst dX12_divided_81 (by decide) (by decide) ?_
        refine r_invV (M := mX12_divided) (As := [(0, v3), (0, (H (v0 : Int).toNat 7)), (0, 0)]) (st := []) (X := v0) (mc := 0) (ms := 0) (fc := 0) (fs := 0) h ok_X12_done cls12 im_X12_done se_X12_done ml_RX12_102 dX12_divided_82 rfl h1 h2 (Nat.le_of_ble_eq_true rfl) rfl ?_
        rintro r K1 H12 ⟨rfl, x13, rfl, h⟩ -
        show Fr mX12_divided (d + 1) 0 0 none 85 [(0, (2, v0)), (1, (0, v1)), (2, (0, v2)), (3, (0, v3)), (4, (0, v4))] [(0, x13)] _ H12 _
        exact r_iret dX12_divided_85 rfl ⟨rfl, _, rfl, h⟩
      · replace h := h.2 c11
        refine r_iconst dX12_divided_77 (by decide) (by decide) ?_
        refine r_goto (tgt := 82) dX12_divided_78 (by decide) ?_
        refine r_invV (M := mX12_divided) (As := [(0, v3), (0, (H (v0 : Int).toNat 7)), (0, 1)]) (st := []) (X := v0) (mc := 0) (ms := 0) (fc := 0) (fs := 0) h ok_X12_done cls12 im_X12_done se_X12_done ml_RX12_102 dX12_divided_82 rfl h1 h2 (Nat.le_of_ble_eq_true rfl) rfl ?_
        rintro r K1 H14 ⟨rfl, x15, rfl, h⟩ -
        show Fr mX12_divided (d + 1) 0 0 none 85 [(0, (2, v0)), (1, (0, v1)), (2, (0, v2)), (3, (0, v3)), (4, (0, v4))] [(0, x15)] _ H14 _
        exact r_iret dX12_divided_85 rfl ⟨rfl, _, rfl, h⟩
  · replace h := h.2 c3
    refine r_aload_n 0 dX12_divided_27 rfl rfl ?_
    refine r_getf cls12 1 dX12_divided_28 (by decide) fl_RX12_7 rfl h1 h2 ?_
    refine r_iload_n 3 dX12_divided_31 rfl rfl ?_
    refine r_iconst dX12_divided_32 (by decide) (by decide) ?_
    obtain ⟨h16, h⟩ := h
    refine r_iadd dX12_divided_33 h16 ?_
    refine r_iload 4 dX12_divided_34 rfl ?_
    obtain ⟨h17, h⟩ := h
    refine r_iadd dX12_divided_36 h17 ?_
    refine r_aload_n 0 dX12_divided_37 rfl rfl ?_
    refine r_getf cls12 5 dX12_divided_38 (by decide) fl_RX12_19 rfl h1 h2 ?_
    refine r_iload 4 dX12_divided_41 rfl ?_
    obtain ⟨h18, h⟩ := h
    obtain ⟨n19, h⟩ := h
    obtain ⟨h20, h⟩ := h
    obtain ⟨h21, h⟩ := h
    obtain ⟨h22, h⟩ := h
    refine r_iald n19 dX12_divided_43 h18 h20 h21 h22 ?_
    obtain ⟨h23, h⟩ := h
    obtain ⟨n24, h⟩ := h
    obtain ⟨h25, h⟩ := h
    obtain ⟨h26, h⟩ := h
    obtain ⟨h27, h⟩ := h
    refine r_iast n24 dX12_divided_44 h23 h25 h26 h27 ?_
    replace h := h _ rfl
    generalize upA H ((H (v0 : Int).toNat 1) : Int).toNat (up1 (H ((H (v0 : Int).toNat 1) : Int).toNat) (((v3 + 1) + v4) : Int).toNat (H ((H (v0 : Int).toNat 5) : Int).toNat (v4 : Int).toNat)) = H28 at h ⊢
    obtain ⟨h29, h⟩ := h
    refine r_iinc 4 dX12_divided_45 (by decide) rfl h29 rfl ?_
    refine r_goto (tgt := 18) dX12_divided_48 (by decide) ?_
    refine Fr.fewer [1, 2, 3, 4, 0] rfl ?_
    exact h
set_option maxRecDepth 20000 in
theorem eX12_divided {d : Nat} {K : Shp} {H : Mem} {q : Int → Mem → Prop} {v0 v1 v2 : Int} (h : inI v1 → inI v2 → Rng K H → FX12_divided_0 d K H q v0 v1 v2) : Ci mX12_divided (d + 1) [(2, v0), (0, v1), (0, v2)] K H q := Call.of rfl (Nat.le_of_ble_eq_true rfl) (fun o r => h (o (0, v1) (by simp)) (o (0, v2) (by simp)) r)
def FX12_common_0 (d : Nat) (K : Shp) (H : Mem) (q : Int → Mem → Prop) (v0 : Int) (v1 : Int) (v2 : Int) : Prop := Fr mX12_common (d + 1) 0 0 none 0 [(0, (2, v0)), (1, (0, v1)), (2, (0, v2))] [] K H (qi K q)
def FX12_common_60 (d : Nat) (K : Shp) (H : Mem) (q : Int → Mem → Prop) (v0 : Int) (v3 : Int) (v5 : Int) (v6 : Int) (v7 : Int) : Prop := Fr mX12_common (d + 1) 0 0 none 60 [(0, (2, v0)), (3, (0, v3)), (5, (0, v5)), (6, (0, v6)), (7, (0, v7))] [] K H (qi K q)
def FX12_common_157 (d : Nat) (K : Shp) (H : Mem) (q : Int → Mem → Prop) (v0 : Int) (v3 : Int) (v5 : Int) (v8 : Int) (v9 : Int) : Prop := Fr mX12_common (d + 1) 0 0 none 157 [(0, (2, v0)), (3, (0, v3)), (5, (0, v5)), (8, (0, v8)), (9, (0, v9))] [] K H (qi K q)
def FX12_common_92 (d : Nat) (K : Shp) (H : Mem) (q : Int → Mem → Prop) (v0 : Int) (v3 : Int) (v5 : Int) (v6 : Int) (v7 : Int) (v8 : Int) : Prop := Fr mX12_common (d + 1) 0 0 none 92 [(0, (2, v0)), (3, (0, v3)), (5, (0, v5)), (6, (0, v6)), (7, (0, v7)), (8, (0, v8))] [] K H (qi K q)
set_option maxRecDepth 20000 in
theorem bX12_common_0 {d : Nat} {K : Shp} {H : Mem} {q : Int → Mem → Prop} {v0 v1 v2 : Int} (h : ((0 : Int) ≤ v0) ∧ (K[(v0 : Int).toNat]? = some (12, 51)) ∧ Ci mX12_places d [(2, v0), (0, v1)] K H (fun x4 H3 => Ci mX12_places d [(2, v0), (0, v2)] K H3 (fun x6 H5 => (inI ((max x4 x6) + 2)) ∧ Ci mX12_room d [(2, v0), (0, ((max x4 x6) + 2))] K H5 (fun x9 H8 => Ci mX12_room d [(2, v0), (0, ((max x4 x6) + 2))] K H8 (fun x11 H10 => Ci mX12_room d [(2, v0), (0, ((max x4 x6) + 2))] K H10 (fun x13 H12 => Cv mX12_put d [(2, v0), (0, x9), (0, v1)] K H12 (fun H14 => Cv mX12_put d [(2, v0), (0, x11), (0, v2)] K H14 (fun H16 => FX12_common_60 d K H16 q (v0) ((H (v0 : Int).toNat 2)) (x9) (x11) (x13))))))))) : FX12_common_0 d K H q (v0) (v1) (v2) := by
  unfold FX12_common_0
  refine r_aload_n 0 dX12_common_0 rfl rfl ?_
  obtain ⟨h1, h⟩ := h
  obtain ⟨h2, h⟩ := h
  refine r_getf cls12 2 dX12_common_1 (by decide) fl_RX12_93 rfl h1 h2 ?_
  refine r_istore_n dX12_common_4 rfl (by decide) rfl ?_
  refine r_aload_n 1 dX12_common_5 rfl rfl ?_
  refine r_iload_n 2 dX12_common_6 rfl rfl ?_
  refine r_invV (M := mX12_common) (As := [(0, v1)]) (st := []) (X := v0) (mc := 0) (ms := 0) (fc := 0) (fs := 0) h ok_X12_places cls12 im_X12_places se_X12_places ml_RX12_106 dX12_common_7 rfl h1 h2 (Nat.le_of_ble_eq_true rfl) rfl ?_
  rintro r K1 H3 ⟨rfl, x4, rfl, h⟩ -
  show Fr mX12_common (d + 1) 0 0 none 10 [(3, (0, (H (v0 : Int).toNat 2))), (0, (2, v0)), (1, (0, v1)), (2, (0, v2))] [(0, x4)] _ H3 _
  refine r_aload_n 1 dX12_common_10 rfl rfl ?_
  refine r_iload_n 3 dX12_common_11 rfl rfl ?_
  refine r_invV (M := mX12_common) (As := [(0, v2)]) (st := [(0, x4)]) (X := v0) (mc := 0) (ms := 0) (fc := 0) (fs := 0) h ok_X12_places cls12 im_X12_places se_X12_places ml_RX12_106 dX12_common_12 rfl h1 h2 (Nat.le_of_ble_eq_true rfl) rfl ?_
  rintro r K1 H5 ⟨rfl, x6, rfl, h⟩ -
  show Fr mX12_common (d + 1) 0 0 none 15 [(3, (0, (H (v0 : Int).toNat 2))), (0, (2, v0)), (1, (0, v1)), (2, (0, v2))] [(0, x6), (0, x4)] _ H5 _
  refine r_maxi dX12_common_15 ml_RX12_115 (Nat.le_of_ble_eq_true rfl) ?_
  refine r_iconst dX12_common_18 (by decide) (by decide) ?_
  obtain ⟨h7, h⟩ := h
  refine r_iadd dX12_common_19 h7 ?_
  refine r_istore dX12_common_20 (by decide) rfl ?_
  refine r_aload_n 2 dX12_common_22 rfl rfl ?_
  refine r_iload 0 dX12_common_23 rfl ?_
  refine r_invV (M := mX12_common) (As := [(0, ((max x4 x6) + 2))]) (st := []) (X := v0) (mc := 0) (ms := 0) (fc := 0) (fs := 0) h ok_X12_room cls12 im_X12_room se_X12_room ml_RX12_96 dX12_common_25 rfl h1 h2 (Nat.le_of_ble_eq_true rfl) rfl ?_
  rintro r K1 H8 ⟨rfl, x9, rfl, h⟩ -
  show Fr mX12_common (d + 1) 0 0 none 28 [(4, (0, ((max x4 x6) + 2))), (3, (0, (H (v0 : Int).toNat 2))), (0, (2, v0)), (1, (0, v1)), (2, (0, v2))] [(0, x9)] _ H8 _
  refine r_istore dX12_common_28 (by decide) rfl ?_
  refine r_aload_n 3 dX12_common_30 rfl rfl ?_
  refine r_iload 1 dX12_common_31 rfl ?_
  refine r_invV (M := mX12_common) (As := [(0, ((max x4 x6) + 2))]) (st := []) (X := v0) (mc := 0) (ms := 0) (fc := 0) (fs := 0) h ok_X12_room cls12 im_X12_room se_X12_room ml_RX12_96 dX12_common_33 rfl h1 h2 (Nat.le_of_ble_eq_true rfl) rfl ?_
  rintro r K1 H10 ⟨rfl, x11, rfl, h⟩ -
  show Fr mX12_common (d + 1) 0 0 none 36 [(5, (0, x9)), (4, (0, ((max x4 x6) + 2))), (3, (0, (H (v0 : Int).toNat 2))), (0, (2, v0)), (1, (0, v1)), (2, (0, v2))] [(0, x11)] _ H10 _
  refine r_istore dX12_common_36 (by decide) rfl ?_
  refine r_aload_n 4 dX12_common_38 rfl rfl ?_
  refine r_iload 2 dX12_common_39 rfl ?_
  refine r_invV (M := mX12_common) (As := [(0, ((max x4 x6) + 2))]) (st := []) (X := v0) (mc := 0) (ms := 0) (fc := 0) (fs := 0) h ok_X12_room cls12 im_X12_room se_X12_room ml_RX12_96 dX12_common_41 rfl h1 h2 (Nat.le_of_ble_eq_true rfl) rfl ?_
  rintro r K1 H12 ⟨rfl, x13, rfl, h⟩ -
  show Fr mX12_common (d + 1) 0 0 none 44 [(6, (0, x11)), (5, (0, x9)), (4, (0, ((max x4 x6) + 2))), (3, (0, (H (v0 : Int).toNat 2))), (0, (2, v0)), (1, (0, v1)), (2, (0, v2))] [(0, x13)] _ H12 _
  refine r_istore dX12_common_44 (by decide) rfl ?_
  refine r_aload_n 5 dX12_common_46 rfl rfl ?_
  refine r_iload 2 dX12_common_47 rfl ?_
  refine r_iload_n 6 dX12_common_49 rfl rfl ?_
  refine r_invV (M := mX12_common) (As := [(0, x9), (0, v1)]) (st := []) (X := v0) (mc := 0) (ms := 0) (fc := 0) (fs := 0) h ok_X12_put cls12 im_X12_put se_X12_put ml_RX12_157 dX12_common_50 rfl h1 h2 (Nat.le_of_ble_eq_true rfl) rfl ?_
  rintro r K1 H14 ⟨rfl, rfl, h⟩ -
  show Fr mX12_common (d + 1) 0 0 none 53 [(7, (0, x13)), (6, (0, x11)), (5, (0, x9)), (4, (0, ((max x4 x6) + 2))), (3, (0, (H (v0 : Int).toNat 2))), (0, (2, v0)), (1, (0, v1)), (2, (0, v2))] [] _ H14 _
  refine r_aload_n 5 dX12_common_53 rfl rfl ?_
  refine r_iload 1 dX12_common_54 rfl ?_
  refine r_iload_n 7 dX12_common_56 rfl rfl ?_
  refine r_invV (M := mX12_common) (As := [(0, x11), (0, v2)]) (st := []) (X := v0) (mc := 0) (ms := 0) (fc := 0) (fs := 0) h ok_X12_put cls12 im_X12_put se_X12_put ml_RX12_157 dX12_common_57 rfl h1 h2 (Nat.le_of_ble_eq_true rfl) rfl ?_
  rintro r K1 H16 ⟨rfl, rfl, h⟩ -
  show Fr mX12_common (d + 1) 0 0 none 60 [(7, (0, x13)), (6, (0, x11)), (5, (0, x9)), (4, (0, ((max x4 x6) + 2))), (3, (0, (H (v0 : Int).toNat 2))), (0, (2, v0)), (1, (0, v1)), (2, (0, v2))] [] _ H16 _
  refine Fr.fewer [5, 4, 2, 1, 0] rfl ?_
  exact h
set_option maxRecDepth 20000 in
theorem bX12_common_60 {d : Nat} {K : Shp} {H : Mem} {q : Int → Mem → Prop} {v0 v3 v5 v6 v7 : Int} (h : ((0 : Int) ≤ v0) ∧ (K[(v0 : Int).toNat]? = some (12, 51)) ∧ ((0 : Int) ≤ (H (v0 : Int).toNat 1)) ∧ ∃ n4 : Nat, (K[((H (v0 : Int).toNat 1) : Int).toNat]? = some (20, n4)) ∧ ((0 : Int) ≤ v6) ∧ ((v6 : Int) < n4) ∧ ((((H ((H (v0 : Int).toNat 1) : Int).toNat (v6 : Int).toNat) : Int) = 0 → ((0 : Int) ≤ v5) ∧ ((v5 : Int) < n4) ∧ FX12_common_157 d K H q (v0) (v3) (v5) ((H ((H (v0 : Int).toNat 1) : Int).toNat (v5 : Int).toNat)) (0)) ∧ (¬ ((H ((H (v0 : Int).toNat 1) : Int).toNat (v6 : Int).toNat) : Int) = 0 → Cv mX12_divide d [(2, v0), (0, v5), (0, v6)] K H (fun H11 => ((0 : Int) ≤ (H11 (v0 : Int).toNat 1)) ∧ ∃ n14 : Nat, (K[((H11 (v0 : Int).toNat 1) : Int).toNat]? = some (20, n14)) ∧ ((0 : Int) ≤ v7) ∧ ((v7 : Int) < n14) ∧ ∀ H18 : Mem, H18 = upA H11 ((H11 (v0 : Int).toNat 1) : Int).toNat (up1 (H11 ((H11 (v0 : Int).toNat 1) : Int).toNat) (v7 : Int).toNat (H11 (v0 : Int).toNat 6)) → FX12_common_92 d K H18 q (v0) (v3) (v5) (v6) (v7) (0))))) : FX12_common_60 d K H q (v0) (v3) (v5) (v6) (v7) := by
  unfold FX12_common_60
  refine r_aload_n 0 dX12_common_60 rfl rfl ?_
  obtain ⟨h1, h⟩ := h
  obtain ⟨h2, h⟩ := h
  refine r_getf cls12 1 dX12_common_61 (by decide) fl_RX12_7 rfl h1 h2 ?_
  refine r_iload 3 dX12_common_64 rfl ?_
  obtain ⟨h3, h⟩ := h
  obtain ⟨n4, h⟩ := h
  obtain ⟨h5, h⟩ := h
  obtain ⟨h6, h⟩ := h
  obtain ⟨h7, h⟩ := h
  refine r_iald n4 dX12_common_66 h3 h5 h6 h7 ?_
  refine r_if_eq (tgt := 145) dX12_common_67 (by decide) (fun c8 => ?_) (fun c8 => ?_)
  · replace h := h.1 c8
    refine r_aload_n 0 dX12_common_145 rfl rfl ?_
    refine r_getf cls12 1 dX12_common_146 (by decide) fl_RX12_7 rfl h1 h2 ?_
    refine r_iload 2 dX12_common_149 rfl ?_
    obtain ⟨h9, h⟩ := h
    obtain ⟨h10, h⟩ := h
    refine r_iald n4 dX12_common_151 h3 h5 h9 h10 ?_
    refine r_istore dX12_common_152 (by decide) rfl ?_
    refine r_iconst dX12_common_154 (by decide) (by decide) ?_
    refine r_istore dX12_common_155 (by decide) rfl ?_
    refine Fr.fewer [2, 3, 4, 1, 0] rfl ?_
    exact h
  · replace h := h.2 c8
    refine r_aload_n 0 dX12_common_70 rfl rfl ?_
    refine r_iload 2 dX12_common_71 rfl ?_
    refine r_iload 3 dX12_common_73 rfl ?_
    refine r_invV (M := mX12_common) (As := [(0, v5), (0, v6)]) (st := []) (X := v0) (mc := 0) (ms := 0) (fc := 0) (fs := 0) h ok_X12_divide cls12 im_X12_divide se_X12_divide ml_RX12_153 dX12_common_75 rfl h1 h2 (Nat.le_of_ble_eq_true rfl) rfl ?_
    rintro r K1 H11 ⟨rfl, rfl, h⟩ -
    show Fr mX12_common (d + 1) 0 0 none 78 [(0, (2, v0)), (3, (0, v3)), (5, (0, v5)), (6, (0, v6)), (7, (0, v7))] [] _ H11 _
    refine r_aload_n 0 dX12_common_78 rfl rfl ?_
    refine r_getf cls12 1 dX12_common_79 (by decide) fl_RX12_7 rfl h1 h2 ?_
    refine r_iload 4 dX12_common_82 rfl ?_
    refine r_aload_n 0 dX12_common_84 rfl rfl ?_
    refine r_getf cls12 6 dX12_common_85 (by decide) fl_RX12_135 rfl h1 h2 ?_
    obtain ⟨h13, h⟩ := h
    obtain ⟨n14, h⟩ := h
    obtain ⟨h15, h⟩ := h
    obtain ⟨h16, h⟩ := h
    obtain ⟨h17, h⟩ := h
    refine r_iast n14 dX12_common_88 h13 h15 h16 h17 ?_
    replace h := h _ rfl
    generalize upA H11 ((H11 (v0 : Int).toNat 1) : Int).toNat (up1 (H11 ((H11 (v0 : Int).toNat 1) : Int).toNat) (v7 : Int).toNat (H11 (v0 : Int).toNat 6)) = H18 at h ⊢
    refine r_iconst dX12_common_89 (by decide) (by decide) ?_
    refine r_istore dX12_common_90 (by decide) rfl ?_
    refine Fr.fewer [1, 2, 3, 4, 5, 0] rfl ?_
    exact h
set_option maxRecDepth 20000 in
theorem bX12_common_157 {d : Nat} {K : Shp} {H : Mem} {q : Int → Mem → Prop} {v0 v3 v5 v8 v9 : Int} (h : ((¬ (v9 : Int) ≤ v8 → (inI (v3 + v8)) ∧ (inI ((v3 + v8) + 1)) ∧ ((0 : Int) ≤ v0) ∧ (K[(v0 : Int).toNat]? = some (12, 51)) ∧ ∀ H6 : Mem, H6 = upA H (v0 : Int).toNat (up1 (H (v0 : Int).toNat) 2 ((v3 + v8) + 1)) → q v3 H6) ∧ ((v9 : Int) ≤ v8 → ((0 : Int) ≤ v0) ∧ (K[(v0 : Int).toNat]? = some (12, 51)) ∧ (inI (v3 + v9)) ∧ (inI (v5 + v9)) ∧ ((0 : Int) ≤ (H (v0 : Int).toNat 1)) ∧ ∃ n12 : Nat, (K[((H (v0 : Int).toNat 1) : Int).toNat]? = some (20, n12)) ∧ ((0 : Int) ≤ (v5 + v9)) ∧ (((v5 + v9) : Int) < n12) ∧ ((0 : Int) ≤ (v3 + v9)) ∧ (((v3 + v9) : Int) < n12) ∧ ∀ H18 : Mem, H18 = upA H ((H (v0 : Int).toNat 1) : Int).toNat (up1 (H ((H (v0 : Int).toNat 1) : Int).toNat) ((v3 + v9) : Int).toNat (H ((H (v0 : Int).toNat 1) : Int).toNat ((v5 + v9) : Int).toNat)) → (inI (v9 + 1)) ∧ FX12_common_157 d K H18 q (v0) (v3) (v5) (v8) ((v9 + 1))))) : FX12_common_157 d K H q (v0) (v3) (v5) (v8) (v9) := by
  unfold FX12_common_157
  refine r_iload 4 dX12_common_157 rfl ?_
  refine r_iload 3 dX12_common_159 rfl ?_
  refine r_icmp_gt (tgt := 189) dX12_common_161 (by decide) (fun c1 => ?_) (fun c1 => ?_)
  · replace h := h.1 c1
    refine r_aload_n 0 dX12_common_189 rfl rfl ?_
    refine r_iload_n 1 dX12_common_190 rfl rfl ?_
    refine r_iload 3 dX12_common_191 rfl ?_
    obtain ⟨h2, h⟩ := h
    refine r_iadd dX12_common_193 h2 ?_
    refine r_iconst dX12_common_194 (by decide) (by decide) ?_
    obtain ⟨h3, h⟩ := h
    refine r_iadd dX12_common_195 h3 ?_
    obtain ⟨h4, h⟩ := h
    obtain ⟨h5, h⟩ := h
    refine r_putf cls12 2 dX12_common_196 (by decide) rfl fl_RX12_93 rfl h4 h5 (fun o => o) ?_
    replace h := h _ rfl
    generalize upA H (v0 : Int).toNat (up1 (H (v0 : Int).toNat) 2 ((v3 + v8) + 1)) = H6 at h ⊢
    refine r_iload_n 1 dX12_common_199 rfl rfl ?_
    exact r_iret dX12_common_200 rfl ⟨rfl, _, rfl, h⟩
  · replace h := h.2 c1
    refine r_aload_n 0 dX12_common_164 rfl rfl ?_
    obtain ⟨h7, h⟩ := h
    obtain ⟨h8, h⟩ := h
    refine r_getf cls12 1 dX12_common_165 (by decide) fl_RX12_7 rfl h7 h8 ?_
    refine r_iload_n 1 dX12_common_168 rfl rfl ?_
    refine r_iload 4 dX12_common_169 rfl ?_
    obtain ⟨h9, h⟩ := h
    refine r_iadd dX12_common_171 h9 ?_
    refine r_aload_n 0 dX12_common_172 rfl rfl ?_
    refine r_getf cls12 1 dX12_common_173 (by decide) fl_RX12_7 rfl h7 h8 ?_
    refine r_iload 2 dX12_common_176 rfl ?_
    refine r_iload 4 dX12_common_178 rfl ?_
    obtain ⟨h10, h⟩ := h
    refine r_iadd dX12_common_180 h10 ?_
    obtain ⟨h11, h⟩ := h
    obtain ⟨n12, h⟩ := h
    obtain ⟨h13, h⟩ := h
    obtain ⟨h14, h⟩ := h
    obtain ⟨h15, h⟩ := h
    refine r_iald n12 dX12_common_181 h11 h13 h14 h15 ?_
    obtain ⟨h16, h⟩ := h
    obtain ⟨h17, h⟩ := h
    refine r_iast n12 dX12_common_182 h11 h13 h16 h17 ?_
    replace h := h _ rfl
    generalize upA H ((H (v0 : Int).toNat 1) : Int).toNat (up1 (H ((H (v0 : Int).toNat 1) : Int).toNat) ((v3 + v9) : Int).toNat (H ((H (v0 : Int).toNat 1) : Int).toNat ((v5 + v9) : Int).toNat)) = H18 at h ⊢
    obtain ⟨h19, h⟩ := h
    refine r_iinc 4 dX12_common_183 (by decide) rfl h19 rfl ?_
    refine r_goto (tgt := 157) dX12_common_186 (by decide) ?_
    refine Fr.fewer [1, 2, 3, 4, 0] rfl ?_
    exact h
set_option maxRecDepth 20000 in
theorem bX12_common_92 {d : Nat} {K : Shp} {H : Mem} {q : Int → Mem → Prop} {v0 v3 v5 v6 v7 v8 : Int} (h : ((0 : Int) ≤ v0) ∧ (K[(v0 : Int).toNat]? = some (12, 51)) ∧ ((¬ (v8 : Int) < (H (v0 : Int).toNat 6) → FX12_common_60 d K H q (v0) (v3) (v6) (v7) (v5)) ∧ ((v8 : Int) < (H (v0 : Int).toNat 6) → (inI (v7 + 1)) ∧ (inI ((v7 + 1) + v8)) ∧ ((0 : Int) ≤ (H (v0 : Int).toNat 3)) ∧ ∃ n7 : Nat, (K[((H (v0 : Int).toNat 3) : Int).toNat]? = some (20, n7)) ∧ ((0 : Int) ≤ v8) ∧ ((v8 : Int) < n7) ∧ ((0 : Int) ≤ (H (v0 : Int).toNat 1)) ∧ ∃ n12 : Nat, (K[((H (v0 : Int).toNat 1) : Int).toNat]? = some (20, n12)) ∧ ((0 : Int) ≤ ((v7 + 1) + v8)) ∧ ((((v7 + 1) + v8) : Int) < n12) ∧ ∀ H16 : Mem, H16 = upA H ((H (v0 : Int).toNat 1) : Int).toNat (up1 (H ((H (v0 : Int).toNat 1) : Int).toNat) (((v7 + 1) + v8) : Int).toNat (H ((H (v0 : Int).toNat 3) : Int).toNat (v8 : Int).toNat)) → (inI (v8 + 1)) ∧ FX12_common_92 d K H16 q (v0) (v3) (v5) (v6) (v7) ((v8 + 1))))) : FX12_common_92 d K H q (v0) (v3) (v5) (v6) (v7) (v8) := by
  unfold FX12_common_92
  refine r_iload 5 dX12_common_92 rfl ?_
  refine r_aload_n 0 dX12_common_94 rfl rfl ?_
  obtain ⟨h1, h⟩ := h
  obtain ⟨h2, h⟩ := h
  refine r_getf cls12 6 dX12_common_95 (by decide) fl_RX12_135 rfl h1 h2 ?_
  refine r_icmp_ge (tgt := 126) dX12_common_98 (by decide) (fun c3 => ?_) (fun c3 => ?_)
  · replace h := h.1 c3
    refine r_iload 2 dX12_common_126 rfl ?_
    refine r_istore dX12_common_128 (by decide) rfl ?_
    refine r_iload 4 dX12_common_130 rfl ?_
    refine r_istore dX12_common_132 (by decide) rfl ?_
    refine r_iload 5 dX12_common_134 rfl ?_
    refine r_istore dX12_common_136 (by decide) rfl ?_
    refine r_iload 2 dX12_common_138 rfl ?_
    refine r_istore dX12_common_140 (by decide) rfl ?_
    refine r_goto (tgt := 60) dX12_common_142 (by decide) ?_
    refine Fr.fewer [4, 5, 2, 1, 0] rfl ?_
    exact h
  · replace h := h.2 c3
    refine r_aload_n 0 dX12_common_101 rfl rfl ?_
    refine r_getf cls12 1 dX12_common_102 (by decide) fl_RX12_7 rfl h1 h2 ?_
    refine r_iload 4 dX12_common_105 rfl ?_
    refine r_iconst dX12_common_107 (by decide) (by decide) ?_
    obtain ⟨h4, h⟩ := h
    refine r_iadd dX12_common_108 h4 ?_
    refine r_iload 5 dX12_common_109 rfl ?_
    obtain ⟨h5, h⟩ := h
    refine r_iadd dX12_common_111 h5 ?_
    refine r_aload_n 0 dX12_common_112 rfl rfl ?_
    refine r_getf cls12 3 dX12_common_113 (by decide) fl_RX12_13 rfl h1 h2 ?_
    refine r_iload 5 dX12_common_116 rfl ?_
    obtain ⟨h6, h⟩ := h
    obtain ⟨n7, h⟩ := h
    obtain ⟨h8, h⟩ := h
    obtain ⟨h9, h⟩ := h
    obtain ⟨h10, h⟩ := h
    refine r_iald n7 dX12_common_118 h6 h8 h9 h10 ?_
    obtain ⟨h11, h⟩ := h
    obtain ⟨n12, h⟩ := h
    obtain ⟨h13, h⟩ := h
    obtain ⟨h14, h⟩ := h
    obtain ⟨h15, h⟩ := h
    refine r_iast n12 dX12_common_119 h11 h13 h14 h15 ?_
    replace h := h _ rfl
    generalize upA H ((H (v0 : Int).toNat 1) : Int).toNat (up1 (H ((H (v0 : Int).toNat 1) : Int).toNat) (((v7 + 1) + v8) : Int).toNat (H ((H (v0 : Int).toNat 3) : Int).toNat (v8 : Int).toNat)) = H16 at h ⊢
    obtain ⟨h17, h⟩ := h
    refine r_iinc 5 dX12_common_120 (by decide) rfl h17 rfl ?_
    refine r_goto (tgt := 92) dX12_common_123 (by decide) ?_
    refine Fr.fewer [1, 2, 3, 4, 5, 0] rfl ?_
    exact h
set_option maxRecDepth 20000 in
theorem eX12_common {d : Nat} {K : Shp} {H : Mem} {q : Int → Mem → Prop} {v0 v1 v2 : Int} (h : inI v1 → inI v2 → Rng K H → FX12_common_0 d K H q v0 v1 v2) : Ci mX12_common (d + 1) [(2, v0), (0, v1), (0, v2)] K H q := Call.of rfl (Nat.le_of_ble_eq_true rfl) (fun o r => h (o (0, v1) (by simp)) (o (0, v2) (by simp)) r)
def FX12_put_0 (d : Nat) (K : Shp) (H : Mem) (q : Mem → Prop) (v0 : Int) (v1 : Int) (v2 : Int) : Prop := Fr mX12_put (d + 1) 0 0 none 0 [(0, (2, v0)), (1, (0, v1)), (2, (0, v2))] [] K H (qv K q)
def FX12_put_16 (d : Nat) (K : Shp) (H : Mem) (q : Mem → Prop) (v0 : Int) (v1 : Int) (v2 : Int) (v3 : Int) (v4 : Int) : Prop := Fr mX12_put (d + 1) 0 0 none 16 [(0, (2, v0)), (1, (0, v1)), (2, (0, v2)), (3, (0, v3)), (4, (0, v4))] [] K H (qv K q)
set_option maxRecDepth 20000 in
theorem bX12_put_0 {d : Nat} {K : Shp} {H : Mem} {q : Mem → Prop} {v0 v1 v2 : Int} (h : ((0 : Int) ≤ v0) ∧ (K[(v0 : Int).toNat]? = some (12, 51)) ∧ Ci mX12_places d [(2, v0), (0, v2)] K H (fun x4 H3 => ((0 : Int) ≤ (H3 (v0 : Int).toNat 1)) ∧ ∃ n6 : Nat, (K[((H3 (v0 : Int).toNat 1) : Int).toNat]? = some (20, n6)) ∧ ((0 : Int) ≤ v1) ∧ ((v1 : Int) < n6) ∧ ∀ H10 : Mem, H10 = upA H3 ((H3 (v0 : Int).toNat 1) : Int).toNat (up1 (H3 ((H3 (v0 : Int).toNat 1) : Int).toNat) (v1 : Int).toNat x4) → FX12_put_16 d K H10 q (v0) (v1) (v2) (x4) (1))) : FX12_put_0 d K H q (v0) (v1) (v2) := by
  unfold FX12_put_0
  refine r_aload_n 0 dX12_put_0 rfl rfl ?_
  refine r_iload_n 2 dX12_put_1 rfl rfl ?_
  obtain ⟨h1, h⟩ := h
  obtain ⟨h2, h⟩ := h
  refine r_invV (M := mX12_put) (As := [(0, v2)]) (st := []) (X := v0) (mc := 0) (ms := 0) (fc := 0) (fs := 0) h ok_X12_places cls12 im_X12_places se_X12_places ml_RX12_106 dX12_put_2 rfl h1 h2 (Nat.le_of_ble_eq_true rfl) rfl ?_
  rintro r K1 H3 ⟨rfl, x4, rfl, h⟩ -
  show Fr mX12_put (d + 1) 0 0 none 5 [(0, (2, v0)), (1, (0, v1)), (2, (0, v2))] [(0, x4)] _ H3 _
  refine r_istore_n dX12_put_5 rfl (by decide) rfl ?_
  refine r_aload_n 1 dX12_put_6 rfl rfl ?_
  refine r_getf cls12 1 dX12_put_7 (by decide) fl_RX12_7 rfl h1 h2 ?_
  refine r_iload_n 2 dX12_put_10 rfl rfl ?_
  refine r_iload_n 0 dX12_put_11 rfl rfl ?_
  obtain ⟨h5, h⟩ := h
  obtain ⟨n6, h⟩ := h
  obtain ⟨h7, h⟩ := h
  obtain ⟨h8, h⟩ := h
  obtain ⟨h9, h⟩ := h
  refine r_iast n6 dX12_put_12 h5 h7 h8 h9 ?_
  replace h := h _ rfl
  generalize upA H3 ((H3 (v0 : Int).toNat 1) : Int).toNat (up1 (H3 ((H3 (v0 : Int).toNat 1) : Int).toNat) (v1 : Int).toNat x4) = H10 at h ⊢
  refine r_iconst dX12_put_13 (by decide) (by decide) ?_
  refine r_istore dX12_put_14 (by decide) rfl ?_
  refine Fr.fewer [2, 3, 4, 1, 0] rfl ?_
  exact h
set_option maxRecDepth 20000 in
theorem bX12_put_16 {d : Nat} {K : Shp} {H : Mem} {q : Mem → Prop} {v0 v1 v2 v3 v4 : Int} (h : ((¬ (v4 : Int) ≤ v3 → q H) ∧ ((v4 : Int) ≤ v3 → ((0 : Int) ≤ v0) ∧ (K[(v0 : Int).toNat]? = some (12, 51)) ∧ (inI (v1 + v4)) ∧ (inI (v2 + v4)) ∧ ((0 : Int) ≤ (H (v0 : Int).toNat 1)) ∧ ∃ n7 : Nat, (K[((H (v0 : Int).toNat 1) : Int).toNat]? = some (20, n7)) ∧ ((0 : Int) ≤ (v2 + v4)) ∧ (((v2 + v4) : Int) < n7) ∧ ((0 : Int) ≤ (v1 + v4)) ∧ (((v1 + v4) : Int) < n7) ∧ ∀ H13 : Mem, H13 = upA H ((H (v0 : Int).toNat 1) : Int).toNat (up1 (H ((H (v0 : Int).toNat 1) : Int).toNat) ((v1 + v4) : Int).toNat (H ((H (v0 : Int).toNat 1) : Int).toNat ((v2 + v4) : Int).toNat)) → (inI (v4 + 1)) ∧ FX12_put_16 d K H13 q (v0) (v1) (v2) (v3) ((v4 + 1))))) : FX12_put_16 d K H q (v0) (v1) (v2) (v3) (v4) := by
  unfold FX12_put_16
  refine r_iload 4 dX12_put_16 rfl ?_
  refine r_iload_n 3 dX12_put_18 rfl rfl ?_
  refine r_icmp_gt (tgt := 46) dX12_put_19 (by decide) (fun c1 => ?_) (fun c1 => ?_)
  · replace h := h.1 c1
    exact r_vret dX12_put_46 rfl ⟨rfl, rfl, h⟩
  · replace h := h.2 c1
    refine r_aload_n 0 dX12_put_22 rfl rfl ?_
    obtain ⟨h2, h⟩ := h
    obtain ⟨h3, h⟩ := h
    refine r_getf cls12 1 dX12_put_23 (by decide) fl_RX12_7 rfl h2 h3 ?_
    refine r_iload_n 1 dX12_put_26 rfl rfl ?_
    refine r_iload 4 dX12_put_27 rfl ?_
    obtain ⟨h4, h⟩ := h
    refine r_iadd dX12_put_29 h4 ?_
    refine r_aload_n 0 dX12_put_30 rfl rfl ?_
    refine r_getf cls12 1 dX12_put_31 (by decide) fl_RX12_7 rfl h2 h3 ?_
    refine r_iload_n 2 dX12_put_34 rfl rfl ?_
    refine r_iload 4 dX12_put_35 rfl ?_
    obtain ⟨h5, h⟩ := h
    refine r_iadd dX12_put_37 h5 ?_
    obtain ⟨h6, h⟩ := h
    obtain ⟨n7, h⟩ := h
    obtain ⟨h8, h⟩ := h
    obtain ⟨h9, h⟩ := h
    obtain ⟨h10, h⟩ := h
    refine r_iald n7 dX12_put_38 h6 h8 h9 h10 ?_
    obtain ⟨h11, h⟩ := h
    obtain ⟨h12, h⟩ := h
    refine r_iast n7 dX12_put_39 h6 h8 h11 h12 ?_
    replace h := h _ rfl
    generalize upA H ((H (v0 : Int).toNat 1) : Int).toNat (up1 (H ((H (v0 : Int).toNat 1) : Int).toNat) ((v1 + v4) : Int).toNat (H ((H (v0 : Int).toNat 1) : Int).toNat ((v2 + v4) : Int).toNat)) = H13 at h ⊢
    obtain ⟨h14, h⟩ := h
    refine r_iinc 4 dX12_put_40 (by decide) rfl h14 rfl ?_
    refine r_goto (tgt := 16) dX12_put_43 (by decide) ?_
    refine Fr.fewer [1, 2, 3, 4, 0] rfl ?_
    exact h
set_option maxRecDepth 20000 in
theorem eX12_put {d : Nat} {K : Shp} {H : Mem} {q : Mem → Prop} {v0 v1 v2 : Int} (h : inI v1 → inI v2 → Rng K H → FX12_put_0 d K H q v0 v1 v2) : Cv mX12_put (d + 1) [(2, v0), (0, v1), (0, v2)] K H q := Call.of rfl (Nat.le_of_ble_eq_true rfl) (fun o r => h (o (0, v1) (by simp)) (o (0, v2) (by simp)) r)
def FX12_out_0 (d : Nat) (K : Shp) (H : Mem) (q : Int → Mem → Prop) (v0 : Int) (v1 : Int) : Prop := Fr mX12_out d 0 0 none 0 [(0, (2, v0)), (1, (0, v1))] [] K H (qi K q)
set_option maxRecDepth 20000 in
theorem bX12_out_0 {d : Nat} {K : Shp} {H : Mem} {q : Int → Mem → Prop} {v0 v1 : Int} (h : (((v1 : Int) < 0 → q (-1) H) ∧ (¬ (v1 : Int) < 0 → ((0 : Int) ≤ v0) ∧ (K[(v0 : Int).toNat]? = some (12, 51)) ∧ ((¬ (v1 : Int) < (H (v0 : Int).toNat 9) → q (-1) H) ∧ ((v1 : Int) < (H (v0 : Int).toNat 9) → ((0 : Int) ≤ (H (v0 : Int).toNat 8)) ∧ ∃ n6 : Nat, (K[((H (v0 : Int).toNat 8) : Int).toNat]? = some (20, n6)) ∧ ((0 : Int) ≤ v1) ∧ ((v1 : Int) < n6) ∧ q (H ((H (v0 : Int).toNat 8) : Int).toNat (v1 : Int).toNat) H))))) : FX12_out_0 d K H q (v0) (v1) := by
  unfold FX12_out_0
  refine r_iload_n 1 dX12_out_0 rfl rfl ?_
  refine r_if_lt (tgt := 21) dX12_out_1 (by decide) (fun c1 => ?_) (fun c1 => ?_)
  · replace h := h.1 c1
    refine r_iconst dX12_out_21 (by decide) (by decide) ?_
    exact r_iret dX12_out_22 rfl ⟨rfl, _, rfl, h⟩
  · replace h := h.2 c1
    refine r_iload_n 1 dX12_out_4 rfl rfl ?_
    refine r_aload_n 0 dX12_out_5 rfl rfl ?_
    obtain ⟨h2, h⟩ := h
    obtain ⟨h3, h⟩ := h
    refine r_getf cls12 9 dX12_out_6 (by decide) fl_RX12_160 rfl h2 h3 ?_
    refine r_icmp_ge (tgt := 21) dX12_out_9 (by decide) (fun c4 => ?_) (fun c4 => ?_)
    · replace h := h.1 c4
      refine r_iconst dX12_out_21 (by decide) (by decide) ?_
      exact r_iret dX12_out_22 rfl ⟨rfl, _, rfl, h⟩
    · replace h := h.2 c4
      refine r_aload_n 0 dX12_out_12 rfl rfl ?_
      refine r_getf cls12 8 dX12_out_13 (by decide) fl_RX12_22 rfl h2 h3 ?_
      refine r_iload_n 1 dX12_out_16 rfl rfl ?_
      obtain ⟨h5, h⟩ := h
      obtain ⟨n6, h⟩ := h
      obtain ⟨h7, h⟩ := h
      obtain ⟨h8, h⟩ := h
      obtain ⟨h9, h⟩ := h
      refine r_iald n6 dX12_out_17 h5 h7 h8 h9 ?_
      refine r_goto (tgt := 22) dX12_out_18 (by decide) ?_
      exact r_iret dX12_out_22 rfl ⟨rfl, _, rfl, h⟩
set_option maxRecDepth 20000 in
theorem eX12_out {d : Nat} {K : Shp} {H : Mem} {q : Int → Mem → Prop} {v0 v1 : Int} (h : inI v1 → Rng K H → FX12_out_0 d K H q v0 v1) : Ci mX12_out d [(2, v0), (0, v1)] K H q := Call.of rfl (Nat.le_of_ble_eq_true rfl) (fun o r => h (o (0, v1) (by simp)) r)
def FX12_tells0_0 (d : Nat) (K : Shp) (H : Mem) (q : Mem → Prop) (v0 : Int) (v1 : Int) : Prop := Fr mX12_tells0 d 0 0 none 0 [(0, (2, v0)), (1, (0, v1))] [] K H (qv K q)
set_option maxRecDepth 20000 in
theorem bX12_tells0_0 {d : Nat} {K : Shp} {H : Mem} {q : Mem → Prop} {v0 v1 : Int} (h : ((0 : Int) ≤ v0) ∧ (K[(v0 : Int).toNat]? = some (12, 51)) ∧ ((0 : Int) ≤ (H (v0 : Int).toNat 8)) ∧ ∃ n4 : Nat, (K[((H (v0 : Int).toNat 8) : Int).toNat]? = some (20, n4)) ∧ ((0 : Int) ≤ (H (v0 : Int).toNat 9)) ∧ (((H (v0 : Int).toNat 9) : Int) < n4) ∧ ∀ H8 : Mem, H8 = upA H ((H (v0 : Int).toNat 8) : Int).toNat (up1 (H ((H (v0 : Int).toNat 8) : Int).toNat) ((H (v0 : Int).toNat 9) : Int).toNat v1) → (inI ((H8 (v0 : Int).toNat 9) + 1)) ∧ ∀ H10 : Mem, H10 = upA H8 (v0 : Int).toNat (up1 (H8 (v0 : Int).toNat) 9 ((H8 (v0 : Int).toNat 9) + 1)) → q H10) : FX12_tells0_0 d K H q (v0) (v1) := by
  unfold FX12_tells0_0
  refine r_aload_n 0 dX12_tells0_0 rfl rfl ?_
  obtain ⟨h1, h⟩ := h
  obtain ⟨h2, h⟩ := h
  refine r_getf cls12 8 dX12_tells0_1 (by decide) fl_RX12_22 rfl h1 h2 ?_
  refine r_aload_n 0 dX12_tells0_4 rfl rfl ?_
  refine r_getf cls12 9 dX12_tells0_5 (by decide) fl_RX12_160 rfl h1 h2 ?_
  refine r_iload_n 1 dX12_tells0_8 rfl rfl ?_
  obtain ⟨h3, h⟩ := h
  obtain ⟨n4, h⟩ := h
  obtain ⟨h5, h⟩ := h
  obtain ⟨h6, h⟩ := h
  obtain ⟨h7, h⟩ := h
  refine r_iast n4 dX12_tells0_9 h3 h5 h6 h7 ?_
  replace h := h _ rfl
  generalize upA H ((H (v0 : Int).toNat 8) : Int).toNat (up1 (H ((H (v0 : Int).toNat 8) : Int).toNat) ((H (v0 : Int).toNat 9) : Int).toNat v1) = H8 at h ⊢
  refine r_aload_n 0 dX12_tells0_10 rfl rfl ?_
  refine r_dup dX12_tells0_11 (show (2 : Nat) ≠ 1 by decide) ?_
  refine r_getf cls12 9 dX12_tells0_12 (by decide) fl_RX12_160 rfl h1 h2 ?_
  refine r_iconst dX12_tells0_15 (by decide) (by decide) ?_
  obtain ⟨h9, h⟩ := h
  refine r_iadd dX12_tells0_16 h9 ?_
  refine r_putf cls12 9 dX12_tells0_17 (by decide) rfl fl_RX12_160 rfl h1 h2 (fun o => o) ?_
  replace h := h _ rfl
  generalize upA H8 (v0 : Int).toNat (up1 (H8 (v0 : Int).toNat) 9 ((H8 (v0 : Int).toNat 9) + 1)) = H10 at h ⊢
  exact r_vret dX12_tells0_20 rfl ⟨rfl, rfl, h⟩
set_option maxRecDepth 20000 in
theorem eX12_tells0 {d : Nat} {K : Shp} {H : Mem} {q : Mem → Prop} {v0 v1 : Int} (h : inI v1 → Rng K H → FX12_tells0_0 d K H q v0 v1) : Cv mX12_tells0 d [(2, v0), (0, v1)] K H q := Call.of rfl (Nat.le_of_ble_eq_true rfl) (fun o r => h (o (0, v1) (by simp)) r)
def FX12_tellsNumber_0 (d : Nat) (K : Shp) (H : Mem) (q : Mem → Prop) (v0 : Int) (v1 : Int) : Prop := Fr mX12_tellsNumber (d + 1) 0 0 none 0 [(0, (2, v0)), (1, (0, v1))] [] K H (qv K q)
def FX12_tellsNumber_35 (d : Nat) (K : Shp) (H : Mem) (q : Mem → Prop) (v0 : Int) (v1 : Int) (v2 : Int) (v3 : Int) : Prop := Fr mX12_tellsNumber (d + 1) 0 0 none 35 [(0, (2, v0)), (1, (0, v1)), (2, (0, v2)), (3, (0, v3))] [] K H (qv K q)
def FX12_tellsNumber_75 (d : Nat) (K : Shp) (H : Mem) (q : Mem → Prop) (v0 : Int) (v2 : Int) : Prop := Fr mX12_tellsNumber (d + 1) 0 0 none 75 [(0, (2, v0)), (2, (0, v2))] [] K H (qv K q)
def FX12_tellsNumber_195 (d : Nat) (K : Shp) (H : Mem) (q : Mem → Prop) (v0 : Int) (v3 : Int) (v4 : Int) : Prop := Fr mX12_tellsNumber (d + 1) 0 0 none 195 [(0, (2, v0)), (3, (0, v3)), (4, (0, v4))] [] K H (qv K q)
def FX12_tellsNumber_92 (d : Nat) (K : Shp) (H : Mem) (q : Mem → Prop) (v0 : Int) (v2 : Int) (v3 : Int) (v5 : Int) : Prop := Fr mX12_tellsNumber (d + 1) 0 0 none 92 [(0, (2, v0)), (2, (0, v2)), (3, (1, v3)), (5, (0, v5))] [] K H (qv K q)
def FX12_tellsNumber_139 (d : Nat) (K : Shp) (H : Mem) (q : Mem → Prop) (v0 : Int) (v2 : Int) (v3 : Int) : Prop := Fr mX12_tellsNumber (d + 1) 0 0 none 139 [(0, (2, v0)), (2, (0, v2)), (3, (1, v3))] [] K H (qv K q)
set_option maxRecDepth 20000 in
theorem bX12_tellsNumber_0 {d : Nat} {K : Shp} {H : Mem} {q : Mem → Prop} {v0 v1 : Int} (h : ((0 : Int) ≤ v0) ∧ (K[(v0 : Int).toNat]? = some (12, 51)) ∧ Ci mX12_sign d [(2, v0), (0, v1)] K H (fun x4 H3 => ((¬ (x4 : Int) < 0 → Ci mX12_sign d [(2, v0), (0, v1)] K H3 (fun x7 H6 => ((¬ (x7 : Int) = 0 → FX12_tellsNumber_35 d K H6 q (v0) (v1) ((H6 (v0 : Int).toNat 9)) (0)) ∧ ((x7 : Int) = 0 → Cv mX12_tells0 d [(2, v0), (0, 48)] K H6 (fun H9 => FX12_tellsNumber_35 d K H9 q (v0) (v1) ((H9 (v0 : Int).toNat 9)) (0)))))) ∧ ((x4 : Int) < 0 → Cv mX12_tells0 d [(2, v0), (0, 45)] K H3 (fun H11 => Ci mX12_sign d [(2, v0), (0, v1)] K H11 (fun x14 H13 => ((¬ (x14 : Int) = 0 → FX12_tellsNumber_35 d K H13 q (v0) (v1) ((H13 (v0 : Int).toNat 9)) (0)) ∧ ((x14 : Int) = 0 → Cv mX12_tells0 d [(2, v0), (0, 48)] K H13 (fun H16 => FX12_tellsNumber_35 d K H16 q (v0) (v1) ((H16 (v0 : Int).toNat 9)) (0)))))))))) : FX12_tellsNumber_0 d K H q (v0) (v1) := by
  unfold FX12_tellsNumber_0
  refine r_aload_n 0 dX12_tellsNumber_0 rfl rfl ?_
  refine r_iload_n 1 dX12_tellsNumber_1 rfl rfl ?_
  obtain ⟨h1, h⟩ := h
  obtain ⟨h2, h⟩ := h
  refine r_invV (M := mX12_tellsNumber) (As := [(0, v1)]) (st := []) (X := v0) (mc := 0) (ms := 0) (fc := 0) (fs := 0) h ok_X12_sign cls12 im_X12_sign se_X12_sign ml_RX12_112 dX12_tellsNumber_2 rfl h1 h2 (Nat.le_of_ble_eq_true rfl) rfl ?_
  rintro r K1 H3 ⟨rfl, x4, rfl, h⟩ -
  show Fr mX12_tellsNumber (d + 1) 0 0 none 5 [(0, (2, v0)), (1, (0, v1))] [(0, x4)] _ H3 _
  refine r_if_ge (tgt := 14) dX12_tellsNumber_5 (by decide) (fun c5 => ?_) (fun c5 => ?_)
  · replace h := h.1 c5
    refine r_aload_n 0 dX12_tellsNumber_14 rfl rfl ?_
    refine r_iload_n 1 dX12_tellsNumber_15 rfl rfl ?_
    refine r_invV (M := mX12_tellsNumber) (As := [(0, v1)]) (st := []) (X := v0) (mc := 0) (ms := 0) (fc := 0) (fs := 0) h ok_X12_sign cls12 im_X12_sign se_X12_sign ml_RX12_112 dX12_tellsNumber_16 rfl h1 h2 (Nat.le_of_ble_eq_true rfl) rfl ?_
    rintro r K1 H6 ⟨rfl, x7, rfl, h⟩ -
    show Fr mX12_tellsNumber (d + 1) 0 0 none 19 [(0, (2, v0)), (1, (0, v1))] [(0, x7)] _ H6 _
    refine r_if_ne (tgt := 28) dX12_tellsNumber_19 (by decide) (fun c8 => ?_) (fun c8 => ?_)
    · replace h := h.1 c8
      refine r_aload_n 0 dX12_tellsNumber_28 rfl rfl ?_
      refine r_getf cls12 9 dX12_tellsNumber_29 (by decide) fl_RX12_160 rfl h1 h2 ?_
      refine r_istore_n dX12_tellsNumber_32 rfl (by decide) rfl ?_
      refine r_iconst dX12_tellsNumber_33 (by decide) (by decide) ?_
      refine r_istore_n dX12_tellsNumber_34 rfl (by decide) rfl ?_
      refine Fr.fewer [2, 3, 1, 0] rfl ?_
      exact h
    · replace h := h.2 c8
      refine r_aload_n 0 dX12_tellsNumber_22 rfl rfl ?_
      refine r_bipush dX12_tellsNumber_23 (by decide) (by decide) ?_
      refine r_invV (M := mX12_tellsNumber) (As := [(0, 48)]) (st := []) (X := v0) (mc := 0) (ms := 0) (fc := 0) (fs := 0) h ok_X12_tells0 cls12 im_X12_tells0 se_X12_tells0 ml_RX12_163 dX12_tellsNumber_25 rfl h1 h2 (Nat.le_of_ble_eq_true rfl) rfl ?_
      rintro r K1 H9 ⟨rfl, rfl, h⟩ -
      show Fr mX12_tellsNumber (d + 1) 0 0 none 28 [(0, (2, v0)), (1, (0, v1))] [] _ H9 _
      refine r_aload_n 0 dX12_tellsNumber_28 rfl rfl ?_
      refine r_getf cls12 9 dX12_tellsNumber_29 (by decide) fl_RX12_160 rfl h1 h2 ?_
      refine r_istore_n dX12_tellsNumber_32 rfl (by decide) rfl ?_
      refine r_iconst dX12_tellsNumber_33 (by decide) (by decide) ?_
      refine r_istore_n dX12_tellsNumber_34 rfl (by decide) rfl ?_
      refine Fr.fewer [2, 3, 1, 0] rfl ?_
      exact h
  · replace h := h.2 c5
    refine r_aload_n 0 dX12_tellsNumber_8 rfl rfl ?_
    refine r_bipush dX12_tellsNumber_9 (by decide) (by decide) ?_
    refine r_invV (M := mX12_tellsNumber) (As := [(0, 45)]) (st := []) (X := v0) (mc := 0) (ms := 0) (fc := 0) (fs := 0) h ok_X12_tells0 cls12 im_X12_tells0 se_X12_tells0 ml_RX12_163 dX12_tellsNumber_11 rfl h1 h2 (Nat.le_of_ble_eq_true rfl) rfl ?_
    rintro r K1 H11 ⟨rfl, rfl, h⟩ -
    show Fr mX12_tellsNumber (d + 1) 0 0 none 14 [(0, (2, v0)), (1, (0, v1))] [] _ H11 _
    refine r_aload_n 0 dX12_tellsNumber_14 rfl rfl ?_
    refine r_iload_n 1 dX12_tellsNumber_15 rfl rfl ?_
    refine r_invV (M := mX12_tellsNumber) (As := [(0, v1)]) (st := []) (X := v0) (mc := 0) (ms := 0) (fc := 0) (fs := 0) h ok_X12_sign cls12 im_X12_sign se_X12_sign ml_RX12_112 dX12_tellsNumber_16 rfl h1 h2 (Nat.le_of_ble_eq_true rfl) rfl ?_
    rintro r K1 H13 ⟨rfl, x14, rfl, h⟩ -
    show Fr mX12_tellsNumber (d + 1) 0 0 none 19 [(0, (2, v0)), (1, (0, v1))] [(0, x14)] _ H13 _
    refine r_if_ne (tgt := 28) dX12_tellsNumber_19 (by decide) (fun c15 => ?_) (fun c15 => ?_)
    · replace h := h.1 c15
      refine r_aload_n 0 dX12_tellsNumber_28 rfl rfl ?_
      refine r_getf cls12 9 dX12_tellsNumber_29 (by decide) fl_RX12_160 rfl h1 h2 ?_
      refine r_istore_n dX12_tellsNumber_32 rfl (by decide) rfl ?_
      refine r_iconst dX12_tellsNumber_33 (by decide) (by decide) ?_
      refine r_istore_n dX12_tellsNumber_34 rfl (by decide) rfl ?_
      refine Fr.fewer [2, 3, 1, 0] rfl ?_
      exact h
    · replace h := h.2 c15
      refine r_aload_n 0 dX12_tellsNumber_22 rfl rfl ?_
      refine r_bipush dX12_tellsNumber_23 (by decide) (by decide) ?_
      refine r_invV (M := mX12_tellsNumber) (As := [(0, 48)]) (st := []) (X := v0) (mc := 0) (ms := 0) (fc := 0) (fs := 0) h ok_X12_tells0 cls12 im_X12_tells0 se_X12_tells0 ml_RX12_163 dX12_tellsNumber_25 rfl h1 h2 (Nat.le_of_ble_eq_true rfl) rfl ?_
      rintro r K1 H16 ⟨rfl, rfl, h⟩ -
      show Fr mX12_tellsNumber (d + 1) 0 0 none 28 [(0, (2, v0)), (1, (0, v1))] [] _ H16 _
      refine r_aload_n 0 dX12_tellsNumber_28 rfl rfl ?_
      refine r_getf cls12 9 dX12_tellsNumber_29 (by decide) fl_RX12_160 rfl h1 h2 ?_
      refine r_istore_n dX12_tellsNumber_32 rfl (by decide) rfl ?_
      refine r_iconst dX12_tellsNumber_33 (by decide) (by decide) ?_
      refine r_istore_n dX12_tellsNumber_34 rfl (by decide) rfl ?_
      refine Fr.fewer [2, 3, 1, 0] rfl ?_
      exact h
set_option maxRecDepth 20000 in
theorem bX12_tellsNumber_35 {d : Nat} {K : Shp} {H : Mem} {q : Mem → Prop} {v0 v1 v2 v3 : Int} (h : ((0 : Int) ≤ v0) ∧ (K[(v0 : Int).toNat]? = some (12, 51)) ∧ Ci mX12_places d [(2, v0), (0, v1)] K H (fun x4 H3 => ((¬ (v3 : Int) < x4 → Ci mX12_places d [(2, v0), (0, v1)] K H3 (fun x7 H6 => ∀ H8 : Mem, H8 = upA H6 (v0 : Int).toNat (up1 (H6 (v0 : Int).toNat) 6 x7) → FX12_tellsNumber_75 d K H8 q (v0) (v2))) ∧ ((v3 : Int) < x4 → (inI (v1 + 1)) ∧ (inI ((v1 + 1) + v3)) ∧ ((0 : Int) ≤ (H3 (v0 : Int).toNat 1)) ∧ ∃ n12 : Nat, (K[((H3 (v0 : Int).toNat 1) : Int).toNat]? = some (20, n12)) ∧ ((0 : Int) ≤ ((v1 + 1) + v3)) ∧ ((((v1 + 1) + v3) : Int) < n12) ∧ ((0 : Int) ≤ (H3 (v0 : Int).toNat 3)) ∧ ∃ n17 : Nat, (K[((H3 (v0 : Int).toNat 3) : Int).toNat]? = some (20, n17)) ∧ ((0 : Int) ≤ v3) ∧ ((v3 : Int) < n17) ∧ ∀ H21 : Mem, H21 = upA H3 ((H3 (v0 : Int).toNat 3) : Int).toNat (up1 (H3 ((H3 (v0 : Int).toNat 3) : Int).toNat) (v3 : Int).toNat (H3 ((H3 (v0 : Int).toNat 1) : Int).toNat (((v1 + 1) + v3) : Int).toNat)) → (inI (v3 + 1)) ∧ FX12_tellsNumber_35 d K H21 q (v0) (v1) (v2) ((v3 + 1)))))) : FX12_tellsNumber_35 d K H q (v0) (v1) (v2) (v3) := by
  unfold FX12_tellsNumber_35
  refine r_iload_n 3 dX12_tellsNumber_35 rfl rfl ?_
  refine r_aload_n 0 dX12_tellsNumber_36 rfl rfl ?_
  refine r_iload_n 1 dX12_tellsNumber_37 rfl rfl ?_
  obtain ⟨h1, h⟩ := h
  obtain ⟨h2, h⟩ := h
  refine r_invV (M := mX12_tellsNumber) (As := [(0, v1)]) (st := [(0, v3)]) (X := v0) (mc := 0) (ms := 0) (fc := 0) (fs := 0) h ok_X12_places cls12 im_X12_places se_X12_places ml_RX12_106 dX12_tellsNumber_38 rfl h1 h2 (Nat.le_of_ble_eq_true rfl) rfl ?_
  rintro r K1 H3 ⟨rfl, x4, rfl, h⟩ -
  show Fr mX12_tellsNumber (d + 1) 0 0 none 41 [(0, (2, v0)), (1, (0, v1)), (2, (0, v2)), (3, (0, v3))] [(0, x4), (0, v3)] _ H3 _
  refine r_icmp_ge (tgt := 66) dX12_tellsNumber_41 (by decide) (fun c5 => ?_) (fun c5 => ?_)
  · replace h := h.1 c5
    refine r_aload_n 0 dX12_tellsNumber_66 rfl rfl ?_
    refine r_aload_n 0 dX12_tellsNumber_67 rfl rfl ?_
    refine r_iload_n 1 dX12_tellsNumber_68 rfl rfl ?_
    refine r_invV (M := mX12_tellsNumber) (As := [(0, v1)]) (st := [(2, v0)]) (X := v0) (mc := 0) (ms := 0) (fc := 0) (fs := 0) h ok_X12_places cls12 im_X12_places se_X12_places ml_RX12_106 dX12_tellsNumber_69 rfl h1 h2 (Nat.le_of_ble_eq_true rfl) rfl ?_
    rintro r K1 H6 ⟨rfl, x7, rfl, h⟩ -
    show Fr mX12_tellsNumber (d + 1) 0 0 none 72 [(0, (2, v0)), (1, (0, v1)), (2, (0, v2)), (3, (0, v3))] [(0, x7), (2, v0)] _ H6 _
    refine r_putf cls12 6 dX12_tellsNumber_72 (by decide) rfl fl_RX12_135 rfl h1 h2 (fun o => o) ?_
    replace h := h _ rfl
    generalize upA H6 (v0 : Int).toNat (up1 (H6 (v0 : Int).toNat) 6 x7) = H8 at h ⊢
    refine Fr.fewer [0, 2] rfl ?_
    exact h
  · replace h := h.2 c5
    refine r_aload_n 0 dX12_tellsNumber_44 rfl rfl ?_
    refine r_getf cls12 3 dX12_tellsNumber_45 (by decide) fl_RX12_13 rfl h1 h2 ?_
    refine r_iload_n 3 dX12_tellsNumber_48 rfl rfl ?_
    refine r_aload_n 0 dX12_tellsNumber_49 rfl rfl ?_
    refine r_getf cls12 1 dX12_tellsNumber_50 (by decide) fl_RX12_7 rfl h1 h2 ?_
    refine r_iload_n 1 dX12_tellsNumber_53 rfl rfl ?_
    refine r_iconst dX12_tellsNumber_54 (by decide) (by decide) ?_
    obtain ⟨h9, h⟩ := h
    refine r_iadd dX12_tellsNumber_55 h9 ?_
    refine r_iload_n 3 dX12_tellsNumber_56 rfl rfl ?_
    obtain ⟨h10, h⟩ := h
    refine r_iadd dX12_tellsNumber_57 h10 ?_
    obtain ⟨h11, h⟩ := h
    obtain ⟨n12, h⟩ := h
    obtain ⟨h13, h⟩ := h
    obtain ⟨h14, h⟩ := h
    obtain ⟨h15, h⟩ := h
    refine r_iald n12 dX12_tellsNumber_58 h11 h13 h14 h15 ?_
    obtain ⟨h16, h⟩ := h
    obtain ⟨n17, h⟩ := h
    obtain ⟨h18, h⟩ := h
    obtain ⟨h19, h⟩ := h
    obtain ⟨h20, h⟩ := h
    refine r_iast n17 dX12_tellsNumber_59 h16 h18 h19 h20 ?_
    replace h := h _ rfl
    generalize upA H3 ((H3 (v0 : Int).toNat 3) : Int).toNat (up1 (H3 ((H3 (v0 : Int).toNat 3) : Int).toNat) (v3 : Int).toNat (H3 ((H3 (v0 : Int).toNat 1) : Int).toNat (((v1 + 1) + v3) : Int).toNat)) = H21 at h ⊢
    obtain ⟨h22, h⟩ := h
    refine r_iinc 3 dX12_tellsNumber_60 (by decide) rfl h22 rfl ?_
    refine r_goto (tgt := 35) dX12_tellsNumber_63 (by decide) ?_
    refine Fr.fewer [1, 2, 3, 0] rfl ?_
    exact h
set_option maxRecDepth 20000 in
theorem bX12_tellsNumber_75 {d : Nat} {K : Shp} {H : Mem} {q : Mem → Prop} {v0 v2 : Int} (h : ((0 : Int) ≤ v0) ∧ (K[(v0 : Int).toNat]? = some (12, 51)) ∧ ((((H (v0 : Int).toNat 6) : Int) ≤ 0 → (inI ((H (v0 : Int).toNat 9) - 1)) ∧ FX12_tellsNumber_195 d K H q (v0) (v2) (((H (v0 : Int).toNat 9) - 1))) ∧ (¬ ((H (v0 : Int).toNat 6) : Int) ≤ 0 → (inI ((H (v0 : Int).toNat 6) - 1)) ∧ FX12_tellsNumber_92 d K H q (v0) (v2) (0) (((H (v0 : Int).toNat 6) - 1))))) : FX12_tellsNumber_75 d K H q (v0) (v2) := by
  unfold FX12_tellsNumber_75
  refine r_aload_n 0 dX12_tellsNumber_75 rfl rfl ?_
  obtain ⟨h1, h⟩ := h
  obtain ⟨h2, h⟩ := h
  refine r_getf cls12 6 dX12_tellsNumber_76 (by decide) fl_RX12_135 rfl h1 h2 ?_
  refine r_if_le (tgt := 185) dX12_tellsNumber_79 (by decide) (fun c3 => ?_) (fun c3 => ?_)
  · replace h := h.1 c3
    refine r_iload_n 1 dX12_tellsNumber_185 rfl rfl ?_
    refine r_istore_n dX12_tellsNumber_186 rfl (by decide) rfl ?_
    refine r_aload_n 1 dX12_tellsNumber_187 rfl rfl ?_
    refine r_getf cls12 9 dX12_tellsNumber_188 (by decide) fl_RX12_160 rfl h1 h2 ?_
    refine r_iconst dX12_tellsNumber_191 (by decide) (by decide) ?_
    obtain ⟨h4, h⟩ := h
    refine r_isub dX12_tellsNumber_192 h4 ?_
    refine r_istore dX12_tellsNumber_193 (by decide) rfl ?_
    refine Fr.fewer [2, 1, 0] rfl ?_
    exact h
  · replace h := h.2 c3
    refine r_lconst0 dX12_tellsNumber_82 ?_
    refine r_lstore_n dX12_tellsNumber_83 rfl (by decide) rfl ?_
    refine r_aload_n 1 dX12_tellsNumber_84 rfl rfl ?_
    refine r_getf cls12 6 dX12_tellsNumber_85 (by decide) fl_RX12_135 rfl h1 h2 ?_
    refine r_iconst dX12_tellsNumber_88 (by decide) (by decide) ?_
    obtain ⟨h5, h⟩ := h
    refine r_isub dX12_tellsNumber_89 h5 ?_
    refine r_istore dX12_tellsNumber_90 (by decide) rfl ?_
    refine Fr.fewer [2, 3, 1, 0] rfl ?_
    exact h
set_option maxRecDepth 20000 in
theorem bX12_tellsNumber_195 {d : Nat} {K : Shp} {H : Mem} {q : Mem → Prop} {v0 v3 v4 : Int} (h : ((¬ (v3 : Int) < v4 → q H) ∧ ((v3 : Int) < v4 → ((0 : Int) ≤ v0) ∧ (K[(v0 : Int).toNat]? = some (12, 51)) ∧ ((0 : Int) ≤ (H (v0 : Int).toNat 8)) ∧ ∃ n5 : Nat, (K[((H (v0 : Int).toNat 8) : Int).toNat]? = some (20, n5)) ∧ ((0 : Int) ≤ v3) ∧ ((v3 : Int) < n5) ∧ ((0 : Int) ≤ v4) ∧ ((v4 : Int) < n5) ∧ ∀ H11 : Mem, H11 = upA H ((H (v0 : Int).toNat 8) : Int).toNat (up1 (H ((H (v0 : Int).toNat 8) : Int).toNat) (v3 : Int).toNat (H ((H (v0 : Int).toNat 8) : Int).toNat (v4 : Int).toNat)) → ((0 : Int) ≤ (H11 (v0 : Int).toNat 8)) ∧ ∃ n13 : Nat, (K[((H11 (v0 : Int).toNat 8) : Int).toNat]? = some (20, n13)) ∧ ((v4 : Int) < n13) ∧ ∀ H16 : Mem, H16 = upA H11 ((H11 (v0 : Int).toNat 8) : Int).toNat (up1 (H11 ((H11 (v0 : Int).toNat 8) : Int).toNat) (v4 : Int).toNat (H ((H (v0 : Int).toNat 8) : Int).toNat (v3 : Int).toNat)) → (inI (v3 + 1)) ∧ (inI (v4 + (-1))) ∧ FX12_tellsNumber_195 d K H16 q (v0) ((v3 + 1)) ((v4 + (-1)))))) : FX12_tellsNumber_195 d K H q (v0) (v3) (v4) := by
  unfold FX12_tellsNumber_195
  refine r_iload_n 1 dX12_tellsNumber_195 rfl rfl ?_
  refine r_iload 2 dX12_tellsNumber_196 rfl ?_
  refine r_icmp_ge (tgt := 240) dX12_tellsNumber_198 (by decide) (fun c1 => ?_) (fun c1 => ?_)
  · replace h := h.1 c1
    exact r_vret dX12_tellsNumber_240 rfl ⟨rfl, rfl, h⟩
  · replace h := h.2 c1
    refine r_aload_n 0 dX12_tellsNumber_201 rfl rfl ?_
    obtain ⟨h2, h⟩ := h
    obtain ⟨h3, h⟩ := h
    refine r_getf cls12 8 dX12_tellsNumber_202 (by decide) fl_RX12_22 rfl h2 h3 ?_
    refine r_iload_n 1 dX12_tellsNumber_205 rfl rfl ?_
    obtain ⟨h4, h⟩ := h
    obtain ⟨n5, h⟩ := h
    obtain ⟨h6, h⟩ := h
    obtain ⟨h7, h⟩ := h
    obtain ⟨h8, h⟩ := h
    refine r_iald n5 dX12_tellsNumber_206 h4 h6 h7 h8 ?_
    refine r_istore dX12_tellsNumber_207 (by decide) rfl ?_
    refine r_aload_n 1 dX12_tellsNumber_209 rfl rfl ?_
    refine r_getf cls12 8 dX12_tellsNumber_210 (by decide) fl_RX12_22 rfl h2 h3 ?_
    refine r_iload_n 2 dX12_tellsNumber_213 rfl rfl ?_
    refine r_aload_n 1 dX12_tellsNumber_214 rfl rfl ?_
    refine r_getf cls12 8 dX12_tellsNumber_215 (by decide) fl_RX12_22 rfl h2 h3 ?_
    refine r_iload 3 dX12_tellsNumber_218 rfl ?_
    obtain ⟨h9, h⟩ := h
    obtain ⟨h10, h⟩ := h
    refine r_iald n5 dX12_tellsNumber_220 h4 h6 h9 h10 ?_
    refine r_iast n5 dX12_tellsNumber_221 h4 h6 h7 h8 ?_
    replace h := h _ rfl
    generalize upA H ((H (v0 : Int).toNat 8) : Int).toNat (up1 (H ((H (v0 : Int).toNat 8) : Int).toNat) (v3 : Int).toNat (H ((H (v0 : Int).toNat 8) : Int).toNat (v4 : Int).toNat)) = H11 at h ⊢
    refine r_aload_n 1 dX12_tellsNumber_222 rfl rfl ?_
    refine r_getf cls12 8 dX12_tellsNumber_223 (by decide) fl_RX12_22 rfl h2 h3 ?_
    refine r_iload 3 dX12_tellsNumber_226 rfl ?_
    refine r_iload 0 dX12_tellsNumber_228 rfl ?_
    obtain ⟨h12, h⟩ := h
    obtain ⟨n13, h⟩ := h
    obtain ⟨h14, h⟩ := h
    obtain ⟨h15, h⟩ := h
    refine r_iast n13 dX12_tellsNumber_230 h12 h14 h9 h15 ?_
    replace h := h _ rfl
    generalize upA H11 ((H11 (v0 : Int).toNat 8) : Int).toNat (up1 (H11 ((H11 (v0 : Int).toNat 8) : Int).toNat) (v4 : Int).toNat (H ((H (v0 : Int).toNat 8) : Int).toNat (v3 : Int).toNat)) = H16 at h ⊢
    obtain ⟨h17, h⟩ := h
    refine r_iinc 2 dX12_tellsNumber_231 (by decide) rfl h17 rfl ?_
    obtain ⟨h18, h⟩ := h
    refine r_iinc 3 dX12_tellsNumber_234 (by decide) rfl h18 rfl ?_
    refine r_goto (tgt := 195) dX12_tellsNumber_237 (by decide) ?_
    refine Fr.fewer [3, 1, 0] rfl ?_
    exact h
set_option maxRecDepth 20000 in
theorem bX12_tellsNumber_92 {d : Nat} {K : Shp} {H : Mem} {q : Mem → Prop} {v0 v2 v3 v5 : Int} (h : (((v5 : Int) < 0 → FX12_tellsNumber_139 d K H q (v0) (v2) (v3)) ∧ (¬ (v5 : Int) < 0 → (inL (v3 * 1073741824)) ∧ ((0 : Int) ≤ v0) ∧ (K[(v0 : Int).toNat]? = some (12, 51)) ∧ ((0 : Int) ≤ (H (v0 : Int).toNat 3)) ∧ ∃ n6 : Nat, (K[((H (v0 : Int).toNat 3) : Int).toNat]? = some (20, n6)) ∧ ((0 : Int) ≤ v5) ∧ ((v5 : Int) < n6) ∧ (∃ n : Nat, 0 ≤ (v3 * 1073741824) ∧ (v3 * 1073741824) % (2 ^ n : Nat) = 0 ∧ 0 ≤ (H ((H (v0 : Int).toNat 3) : Int).toNat (v5 : Int).toNat) ∧ (H ((H (v0 : Int).toNat 3) : Int).toNat (v5 : Int).toNat) < (2 ^ n : Nat) ∧ inL ((v3 * 1073741824) + (H ((H (v0 : Int).toNat 3) : Int).toNat (v5 : Int).toNat))) ∧ (inL (Int.tdiv ((v3 * 1073741824) + (H ((H (v0 : Int).toNat 3) : Int).toNat (v5 : Int).toNat)) 10)) ∧ (inI (Int.tdiv ((v3 * 1073741824) + (H ((H (v0 : Int).toNat 3) : Int).toNat (v5 : Int).toNat)) 10)) ∧ ∀ H13 : Mem, H13 = upA H ((H (v0 : Int).toNat 3) : Int).toNat (up1 (H ((H (v0 : Int).toNat 3) : Int).toNat) (v5 : Int).toNat (Int.tdiv ((v3 * 1073741824) + (H ((H (v0 : Int).toNat 3) : Int).toNat (v5 : Int).toNat)) 10)) → (inL (Int.tmod ((v3 * 1073741824) + (H ((H (v0 : Int).toNat 3) : Int).toNat (v5 : Int).toNat)) 10)) ∧ (inI (v5 + (-1))) ∧ FX12_tellsNumber_92 d K H13 q (v0) (v2) ((Int.tmod ((v3 * 1073741824) + (H ((H (v0 : Int).toNat 3) : Int).toNat (v5 : Int).toNat)) 10)) ((v5 + (-1)))))) : FX12_tellsNumber_92 d K H q (v0) (v2) (v3) (v5) := by
  unfold FX12_tellsNumber_92
  refine r_iload 3 dX12_tellsNumber_92 rfl ?_
  refine r_if_lt (tgt := 139) dX12_tellsNumber_94 (by decide) (fun c1 => ?_) (fun c1 => ?_)
  · replace h := h.1 c1
    refine Fr.fewer [0, 1, 2] rfl ?_
    exact h
  · replace h := h.2 c1
    refine r_lload_n 2 dX12_tellsNumber_97 rfl rfl ?_
    refine r_bipush dX12_tellsNumber_98 (by decide) (by decide) ?_
    obtain ⟨h2, h⟩ := h
    refine r_lshl30 dX12_tellsNumber_100 h2 ?_
    refine r_aload_n 0 dX12_tellsNumber_101 rfl rfl ?_
    obtain ⟨h3, h⟩ := h
    obtain ⟨h4, h⟩ := h
    refine r_getf cls12 3 dX12_tellsNumber_102 (by decide) fl_RX12_13 rfl h3 h4 ?_
    refine r_iload 3 dX12_tellsNumber_105 rfl ?_
    obtain ⟨h5, h⟩ := h
    obtain ⟨n6, h⟩ := h
    obtain ⟨h7, h⟩ := h
    obtain ⟨h8, h⟩ := h
    obtain ⟨h9, h⟩ := h
    refine r_iald n6 dX12_tellsNumber_107 h5 h7 h8 h9 ?_
    refine r_i2l dX12_tellsNumber_108 ?_
    obtain ⟨h10, h⟩ := h
    obtain ⟨nh10, h10a, h10b, h10c, h10d, h10e⟩ := h10
    refine r_lor nh10 dX12_tellsNumber_109 h10a h10b h10c h10d h10e ?_
    refine r_lstore dX12_tellsNumber_110 (by decide) rfl ?_
    refine r_aload_n 1 dX12_tellsNumber_112 rfl rfl ?_
    refine r_getf cls12 3 dX12_tellsNumber_113 (by decide) fl_RX12_13 rfl h3 h4 ?_
    refine r_iload 4 dX12_tellsNumber_116 rfl ?_
    refine r_lload 0 dX12_tellsNumber_118 rfl ?_
    refine r_ldc2 (x := 10) dX12_tellsNumber_120 kl_RX12_166 (by decide) (by decide) ?_
    obtain ⟨h11, h⟩ := h
    refine r_ldiv dX12_tellsNumber_123 (by decide) h11 ?_
    obtain ⟨h12, h⟩ := h
    refine r_l2i dX12_tellsNumber_124 h12 ?_
    refine r_iast n6 dX12_tellsNumber_125 h5 h7 h8 h9 ?_
    replace h := h _ rfl
    generalize upA H ((H (v0 : Int).toNat 3) : Int).toNat (up1 (H ((H (v0 : Int).toNat 3) : Int).toNat) (v5 : Int).toNat (Int.tdiv ((v3 * 1073741824) + (H ((H (v0 : Int).toNat 3) : Int).toNat (v5 : Int).toNat)) 10)) = H13 at h ⊢
    refine r_lload 0 dX12_tellsNumber_126 rfl ?_
    refine r_ldc2 (x := 10) dX12_tellsNumber_128 kl_RX12_166 (by decide) (by decide) ?_
    obtain ⟨h14, h⟩ := h
    refine r_lrem dX12_tellsNumber_131 (by decide) h14 ?_
    refine r_lstore_n dX12_tellsNumber_132 rfl (by decide) rfl ?_
    obtain ⟨h15, h⟩ := h
    refine r_iinc 4 dX12_tellsNumber_133 (by decide) rfl h15 rfl ?_
    refine r_goto (tgt := 92) dX12_tellsNumber_136 (by decide) ?_
    refine Fr.fewer [3, 4, 1, 0] rfl ?_
    exact h
set_option maxRecDepth 20000 in
theorem bX12_tellsNumber_139 {d : Nat} {K : Shp} {H : Mem} {q : Mem → Prop} {v0 v2 v3 : Int} (h : ((0 : Int) ≤ v0) ∧ (K[(v0 : Int).toNat]? = some (12, 51)) ∧ ((((H (v0 : Int).toNat 6) : Int) ≤ 0 → (inI v3) ∧ (inI (48 + v3)) ∧ Cv mX12_tells0 d [(2, v0), (0, (48 + v3))] K H (fun H6 => FX12_tellsNumber_75 d K H6 q (v0) (v2))) ∧ (¬ ((H (v0 : Int).toNat 6) : Int) ≤ 0 → (inI ((H (v0 : Int).toNat 6) - 1)) ∧ ((0 : Int) ≤ (H (v0 : Int).toNat 3)) ∧ ∃ n10 : Nat, (K[((H (v0 : Int).toNat 3) : Int).toNat]? = some (20, n10)) ∧ ((0 : Int) ≤ ((H (v0 : Int).toNat 6) - 1)) ∧ ((((H (v0 : Int).toNat 6) - 1) : Int) < n10) ∧ ((¬ ((H ((H (v0 : Int).toNat 3) : Int).toNat (((H (v0 : Int).toNat 6) - 1) : Int).toNat) : Int) = 0 → (inI v3) ∧ (inI (48 + v3)) ∧ Cv mX12_tells0 d [(2, v0), (0, (48 + v3))] K H (fun H17 => FX12_tellsNumber_75 d K H17 q (v0) (v2))) ∧ (((H ((H (v0 : Int).toNat 3) : Int).toNat (((H (v0 : Int).toNat 6) - 1) : Int).toNat) : Int) = 0 → ∀ H19 : Mem, H19 = upA H (v0 : Int).toNat (up1 (H (v0 : Int).toNat) 6 ((H (v0 : Int).toNat 6) - 1)) → FX12_tellsNumber_139 d K H19 q (v0) (v2) (v3)))))) : FX12_tellsNumber_139 d K H q (v0) (v2) (v3) := by
  unfold FX12_tellsNumber_139
  refine r_aload_n 0 dX12_tellsNumber_139 rfl rfl ?_
  obtain ⟨h1, h⟩ := h
  obtain ⟨h2, h⟩ := h
  refine r_getf cls12 6 dX12_tellsNumber_140 (by decide) fl_RX12_135 rfl h1 h2 ?_
  refine r_if_le (tgt := 173) dX12_tellsNumber_143 (by decide) (fun c3 => ?_) (fun c3 => ?_)
  · replace h := h.1 c3
    refine r_aload_n 0 dX12_tellsNumber_173 rfl rfl ?_
    refine r_bipush dX12_tellsNumber_174 (by decide) (by decide) ?_
    refine r_lload_n 2 dX12_tellsNumber_176 rfl rfl ?_
    obtain ⟨h4, h⟩ := h
    refine r_l2i dX12_tellsNumber_177 h4 ?_
    obtain ⟨h5, h⟩ := h
    refine r_iadd dX12_tellsNumber_178 h5 ?_
    refine r_invV (M := mX12_tellsNumber) (As := [(0, (48 + v3))]) (st := []) (X := v0) (mc := 0) (ms := 0) (fc := 0) (fs := 0) h ok_X12_tells0 cls12 im_X12_tells0 se_X12_tells0 ml_RX12_163 dX12_tellsNumber_179 rfl h1 h2 (Nat.le_of_ble_eq_true rfl) rfl ?_
    rintro r K1 H6 ⟨rfl, rfl, h⟩ -
    show Fr mX12_tellsNumber (d + 1) 0 0 none 182 [(0, (2, v0)), (2, (0, v2)), (3, (1, v3))] [] _ H6 _
    refine r_goto (tgt := 75) dX12_tellsNumber_182 (by decide) ?_
    refine Fr.fewer [0, 1] rfl ?_
    exact h
  · replace h := h.2 c3
    refine r_aload_n 0 dX12_tellsNumber_146 rfl rfl ?_
    refine r_getf cls12 3 dX12_tellsNumber_147 (by decide) fl_RX12_13 rfl h1 h2 ?_
    refine r_aload_n 0 dX12_tellsNumber_150 rfl rfl ?_
    refine r_getf cls12 6 dX12_tellsNumber_151 (by decide) fl_RX12_135 rfl h1 h2 ?_
    refine r_iconst dX12_tellsNumber_154 (by decide) (by decide) ?_
    obtain ⟨h8, h⟩ := h
    refine r_isub dX12_tellsNumber_155 h8 ?_
    obtain ⟨h9, h⟩ := h
    obtain ⟨n10, h⟩ := h
    obtain ⟨h11, h⟩ := h
    obtain ⟨h12, h⟩ := h
    obtain ⟨h13, h⟩ := h
    refine r_iald n10 dX12_tellsNumber_156 h9 h11 h12 h13 ?_
    refine r_if_ne (tgt := 173) dX12_tellsNumber_157 (by decide) (fun c14 => ?_) (fun c14 => ?_)
    · replace h := h.1 c14
      refine r_aload_n 0 dX12_tellsNumber_173 rfl rfl ?_
      refine r_bipush dX12_tellsNumber_174 (by decide) (by decide) ?_
      refine r_lload_n 2 dX12_tellsNumber_176 rfl rfl ?_
      obtain ⟨h15, h⟩ := h
      refine r_l2i dX12_tellsNumber_177 h15 ?_
      obtain ⟨h16, h⟩ := h
      refine r_iadd dX12_tellsNumber_178 h16 ?_
      refine r_invV (M := mX12_tellsNumber) (As := [(0, (48 + v3))]) (st := []) (X := v0) (mc := 0) (ms := 0) (fc := 0) (fs := 0) h ok_X12_tells0 cls12 im_X12_tells0 se_X12_tells0 ml_RX12_163 dX12_tellsNumber_179 rfl h1 h2 (Nat.le_of_ble_eq_true rfl) rfl ?_
      rintro r K1 H17 ⟨rfl, rfl, h⟩ -
      show Fr mX12_tellsNumber (d + 1) 0 0 none 182 [(0, (2, v0)), (2, (0, v2)), (3, (1, v3))] [] _ H17 _
      refine r_goto (tgt := 75) dX12_tellsNumber_182 (by decide) ?_
      refine Fr.fewer [0, 1] rfl ?_
      exact h
    · replace h := h.2 c14
      refine r_aload_n 0 dX12_tellsNumber_160 rfl rfl ?_
      refine r_dup dX12_tellsNumber_161 (show (2 : Nat) ≠ 1 by decide) ?_
      refine r_getf cls12 6 dX12_tellsNumber_162 (by decide) fl_RX12_135 rfl h1 h2 ?_
      refine r_iconst dX12_tellsNumber_165 (by decide) (by decide) ?_
      refine r_isub dX12_tellsNumber_166 h8 ?_
      refine r_putf cls12 6 dX12_tellsNumber_167 (by decide) rfl fl_RX12_135 rfl h1 h2 (fun o => o) ?_
      replace h := h _ rfl
      generalize upA H (v0 : Int).toNat (up1 (H (v0 : Int).toNat) 6 ((H (v0 : Int).toNat 6) - 1)) = H19 at h ⊢
      refine r_goto (tgt := 139) dX12_tellsNumber_170 (by decide) ?_
      refine Fr.fewer [0, 1, 2] rfl ?_
      exact h
set_option maxRecDepth 20000 in
theorem eX12_tellsNumber {d : Nat} {K : Shp} {H : Mem} {q : Mem → Prop} {v0 v1 : Int} (h : inI v1 → Rng K H → FX12_tellsNumber_0 d K H q v0 v1) : Cv mX12_tellsNumber (d + 1) [(2, v0), (0, v1)] K H q := Call.of rfl (Nat.le_of_ble_eq_true rfl) (fun o r => h (o (0, v1) (by simp)) r)
