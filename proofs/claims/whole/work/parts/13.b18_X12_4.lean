/-! printed by gen/emit.py: what a walk from each cut point asks -/
def FX12_timesOf_0 (d : Nat) (K : Shp) (H : Mem) (q : Mem → Prop) (v0 : Int) (v1 : Int) (v2 : Int) : Prop := Fr mX12_timesOf (d + 1) 0 0 none 0 [(0, (2, v0)), (1, (0, v1)), (2, (0, v2))] [] K H (qv K q)
set_option maxHeartbeats 4000000 in
set_option maxRecDepth 20000 in
theorem bX12_timesOf_0 {d : Nat} {K : Shp} {H : Mem} {q : Mem → Prop} {v0 v1 v2 : Int} (h : ((0 : Int) ≤ v0) ∧ (K[(v0 : Int).toNat]? = some (12, 51)) ∧ Cv mX12_gather d [(2, v0), (0, v1), (0, v2)] K H (fun H3 => (inI (2 * v1)) ∧ (inI ((2 * v1) + v2)) ∧ ((0 : Int) ≤ (H3 (v0 : Int).toNat 34)) ∧ ∃ n8 : Nat, (K[((H3 (v0 : Int).toNat 34) : Int).toNat]? = some (20, n8)) ∧ ((0 : Int) ≤ ((2 * v1) + v2)) ∧ ((((2 * v1) + v2) : Int) < n8) ∧ ((0 : Int) ≤ (H3 (v0 : Int).toNat 31)) ∧ ∃ n13 : Nat, (K[((H3 (v0 : Int).toNat 31) : Int).toNat]? = some (20, n13)) ∧ ((0 : Int) ≤ v1) ∧ ((v1 : Int) < n13) ∧ Ci mX12_whole d [(2, v0), (1, (H3 (v0 : Int).toNat 43))] K H3 (fun x18 H17 => Ci mX12_whole d [(2, v0), (1, (H17 (v0 : Int).toNat 44))] K H17 (fun x20 H19 => Ci mX12_whole d [(2, v0), (1, (H19 (v0 : Int).toNat 45))] K H19 (fun x22 H21 => Ci mX12_whole d [(2, v0), (1, (H21 (v0 : Int).toNat 40))] K H21 (fun x24 H23 => Ci mX12_whole d [(2, v0), (1, (H3 ((H3 (v0 : Int).toNat 31) : Int).toNat (v1 : Int).toNat))] K H23 (fun x26 H25 => Ci mX12_product d [(2, v0), (0, x24), (0, x26)] K H25 (fun x28 H27 => Ci mX12_product d [(2, v0), (0, x20), (0, x22)] K H27 (fun x30 H29 => Ci mX12_product d [(2, v0), (0, x28), (0, x30)] K H29 (fun x32 H31 => Ci mX12_whole d [(2, v0), (1, (H31 (v0 : Int).toNat 41))] K H31 (fun x34 H33 => (inI ((H3 ((H3 (v0 : Int).toNat 31) : Int).toNat (v1 : Int).toNat) - (H3 ((H3 (v0 : Int).toNat 34) : Int).toNat (((2 * v1) + v2) : Int).toNat))) ∧ Ci mX12_whole d [(2, v0), (1, ((H3 ((H3 (v0 : Int).toNat 31) : Int).toNat (v1 : Int).toNat) - (H3 ((H3 (v0 : Int).toNat 34) : Int).toNat (((2 * v1) + v2) : Int).toNat)))] K H33 (fun x37 H36 => Ci mX12_product d [(2, v0), (0, x34), (0, x37)] K H36 (fun x39 H38 => Ci mX12_product d [(2, v0), (0, x18), (0, x22)] K H38 (fun x41 H40 => Ci mX12_product d [(2, v0), (0, x39), (0, x41)] K H40 (fun x43 H42 => Ci mX12_sum d [(2, v0), (0, x32), (0, x43)] K H42 (fun x45 H44 => Ci mX12_whole d [(2, v0), (1, (H44 (v0 : Int).toNat 42))] K H44 (fun x47 H46 => Ci mX12_whole d [(2, v0), (1, (H3 ((H3 (v0 : Int).toNat 34) : Int).toNat (((2 * v1) + v2) : Int).toNat))] K H46 (fun x49 H48 => Ci mX12_product d [(2, v0), (0, x47), (0, x49)] K H48 (fun x51 H50 => Ci mX12_product d [(2, v0), (0, x18), (0, x20)] K H50 (fun x53 H52 => Ci mX12_product d [(2, v0), (0, x51), (0, x53)] K H52 (fun x55 H54 => Ci mX12_sum d [(2, v0), (0, x45), (0, x55)] K H54 (fun x57 H56 => ∀ H58 : Mem, H58 = upA H56 (v0 : Int).toNat (up1 (H56 (v0 : Int).toNat) 47 x57) → Ci mX12_product d [(2, v0), (0, x20), (0, x22)] K H58 (fun x60 H59 => Ci mX12_product d [(2, v0), (0, x18), (0, x60)] K H59 (fun x62 H61 => Ci mX12_whole d [(2, v0), (1, (H61 (v0 : Int).toNat 46))] K H61 (fun x64 H63 => Ci mX12_product d [(2, v0), (0, x62), (0, x64)] K H63 (fun x66 H65 => ∀ H67 : Mem, H67 = upA H65 (v0 : Int).toNat (up1 (H65 (v0 : Int).toNat) 48 x66) → q H67)))))))))))))))))))))))))) : FX12_timesOf_0 d K H q (v0) (v1) (v2) := by
  unfold FX12_timesOf_0
  refine r_aload_n 0 dX12_timesOf_0 rfl rfl ?_
  refine r_iload_n 1 dX12_timesOf_1 rfl rfl ?_
  refine r_iload_n 2 dX12_timesOf_2 rfl rfl ?_
  obtain ⟨h1, h⟩ := h
  obtain ⟨h2, h⟩ := h
  refine r_invV (M := mX12_timesOf) (As := [(0, v1), (0, v2)]) (st := []) (X := v0) (mc := 0) (ms := 0) (fc := 0) (fs := 0) h ok_X12_gather cls12 im_X12_gather se_X12_gather ml_RX12_311 dX12_timesOf_3 rfl h1 h2 (Nat.le_of_ble_eq_true rfl) rfl ?_
  rintro r K1 H3 ⟨rfl, rfl, h⟩ -
  show Fr mX12_timesOf (d + 1) 0 0 none 6 [(0, (2, v0)), (1, (0, v1)), (2, (0, v2))] [] _ H3 _
  refine r_aload_n 0 dX12_timesOf_6 rfl rfl ?_
  refine r_getf cls12 34 dX12_timesOf_7 (by decide) fl_RX12_76 rfl h1 h2 ?_
  refine r_iconst dX12_timesOf_10 (by decide) (by decide) ?_
  refine r_iload_n 1 dX12_timesOf_11 rfl rfl ?_
  obtain ⟨h5, h⟩ := h
  refine r_imul dX12_timesOf_12 h5 ?_
  refine r_iload_n 2 dX12_timesOf_13 rfl rfl ?_
  obtain ⟨h6, h⟩ := h
  refine r_iadd dX12_timesOf_14 h6 ?_
  obtain ⟨h7, h⟩ := h
  obtain ⟨n8, h⟩ := h
  obtain ⟨h9, h⟩ := h
  obtain ⟨h10, h⟩ := h
  obtain ⟨h11, h⟩ := h
  refine r_iald n8 dX12_timesOf_15 h7 h9 h10 h11 ?_
  refine r_istore_n dX12_timesOf_16 rfl (by decide) rfl ?_
  refine r_aload_n 1 dX12_timesOf_17 rfl rfl ?_
  refine r_getf cls12 31 dX12_timesOf_18 (by decide) fl_RX12_67 rfl h1 h2 ?_
  refine r_iload_n 2 dX12_timesOf_21 rfl rfl ?_
  obtain ⟨h12, h⟩ := h
  obtain ⟨n13, h⟩ := h
  obtain ⟨h14, h⟩ := h
  obtain ⟨h15, h⟩ := h
  obtain ⟨h16, h⟩ := h
  refine r_iald n13 dX12_timesOf_22 h12 h14 h15 h16 ?_
  refine r_istore dX12_timesOf_23 (by decide) rfl ?_
  refine r_aload_n 2 dX12_timesOf_25 rfl rfl ?_
  refine r_aload_n 2 dX12_timesOf_26 rfl rfl ?_
  refine r_getf cls12 43 dX12_timesOf_27 (by decide) fl_RX12_290 rfl h1 h2 ?_
  refine r_invV (M := mX12_timesOf) (As := [(1, (H3 (v0 : Int).toNat 43))]) (st := []) (X := v0) (mc := 0) (ms := 0) (fc := 0) (fs := 0) h ok_X12_whole cls12 im_X12_whole se_X12_whole ml_RX12_125 dX12_timesOf_30 rfl h1 h2 (Nat.le_of_ble_eq_true rfl) rfl ?_
  rintro r K1 H17 ⟨rfl, x18, rfl, h⟩ -
  show Fr mX12_timesOf (d + 1) 0 0 none 33 [(4, (0, (H3 ((H3 (v0 : Int).toNat 31) : Int).toNat (v1 : Int).toNat))), (3, (0, (H3 ((H3 (v0 : Int).toNat 34) : Int).toNat (((2 * v1) + v2) : Int).toNat))), (0, (2, v0)), (1, (0, v1)), (2, (0, v2))] [(0, x18)] _ H17 _
  refine r_istore dX12_timesOf_33 (by decide) rfl ?_
  refine r_aload_n 3 dX12_timesOf_35 rfl rfl ?_
  refine r_aload_n 3 dX12_timesOf_36 rfl rfl ?_
  refine r_getf cls12 44 dX12_timesOf_37 (by decide) fl_RX12_299 rfl h1 h2 ?_
  refine r_invV (M := mX12_timesOf) (As := [(1, (H17 (v0 : Int).toNat 44))]) (st := []) (X := v0) (mc := 0) (ms := 0) (fc := 0) (fs := 0) h ok_X12_whole cls12 im_X12_whole se_X12_whole ml_RX12_125 dX12_timesOf_40 rfl h1 h2 (Nat.le_of_ble_eq_true rfl) rfl ?_
  rintro r K1 H19 ⟨rfl, x20, rfl, h⟩ -
  show Fr mX12_timesOf (d + 1) 0 0 none 43 [(5, (0, x18)), (4, (0, (H3 ((H3 (v0 : Int).toNat 31) : Int).toNat (v1 : Int).toNat))), (3, (0, (H3 ((H3 (v0 : Int).toNat 34) : Int).toNat (((2 * v1) + v2) : Int).toNat))), (0, (2, v0)), (1, (0, v1)), (2, (0, v2))] [(0, x20)] _ H19 _
  refine r_istore dX12_timesOf_43 (by decide) rfl ?_
  refine r_aload_n 4 dX12_timesOf_45 rfl rfl ?_
  refine r_aload_n 4 dX12_timesOf_46 rfl rfl ?_
  refine r_getf cls12 45 dX12_timesOf_47 (by decide) fl_RX12_305 rfl h1 h2 ?_
  refine r_invV (M := mX12_timesOf) (As := [(1, (H19 (v0 : Int).toNat 45))]) (st := []) (X := v0) (mc := 0) (ms := 0) (fc := 0) (fs := 0) h ok_X12_whole cls12 im_X12_whole se_X12_whole ml_RX12_125 dX12_timesOf_50 rfl h1 h2 (Nat.le_of_ble_eq_true rfl) rfl ?_
  rintro r K1 H21 ⟨rfl, x22, rfl, h⟩ -
  show Fr mX12_timesOf (d + 1) 0 0 none 53 [(6, (0, x20)), (5, (0, x18)), (4, (0, (H3 ((H3 (v0 : Int).toNat 31) : Int).toNat (v1 : Int).toNat))), (3, (0, (H3 ((H3 (v0 : Int).toNat 34) : Int).toNat (((2 * v1) + v2) : Int).toNat))), (0, (2, v0)), (1, (0, v1)), (2, (0, v2))] [(0, x22)] _ H21 _
  refine r_istore dX12_timesOf_53 (by decide) rfl ?_
  refine r_aload_n 5 dX12_timesOf_55 rfl rfl ?_
  refine r_aload_n 5 dX12_timesOf_56 rfl rfl ?_
  refine r_aload_n 5 dX12_timesOf_57 rfl rfl ?_
  refine r_aload_n 5 dX12_timesOf_58 rfl rfl ?_
  refine r_getf cls12 40 dX12_timesOf_59 (by decide) fl_RX12_287 rfl h1 h2 ?_
  refine r_invV (M := mX12_timesOf) (As := [(1, (H21 (v0 : Int).toNat 40))]) (st := [(2, v0), (2, v0)]) (X := v0) (mc := 0) (ms := 0) (fc := 0) (fs := 0) h ok_X12_whole cls12 im_X12_whole se_X12_whole ml_RX12_125 dX12_timesOf_62 rfl h1 h2 (Nat.le_of_ble_eq_true rfl) rfl ?_
  rintro r K1 H23 ⟨rfl, x24, rfl, h⟩ -
  show Fr mX12_timesOf (d + 1) 0 0 none 65 [(7, (0, x22)), (6, (0, x20)), (5, (0, x18)), (4, (0, (H3 ((H3 (v0 : Int).toNat 31) : Int).toNat (v1 : Int).toNat))), (3, (0, (H3 ((H3 (v0 : Int).toNat 34) : Int).toNat (((2 * v1) + v2) : Int).toNat))), (0, (2, v0)), (1, (0, v1)), (2, (0, v2))] [(0, x24), (2, v0), (2, v0)] _ H23 _
  refine r_aload_n 5 dX12_timesOf_65 rfl rfl ?_
  refine r_iload 3 dX12_timesOf_66 rfl ?_
  refine r_i2l dX12_timesOf_68 ?_
  refine r_invV (M := mX12_timesOf) (As := [(1, (H3 ((H3 (v0 : Int).toNat 31) : Int).toNat (v1 : Int).toNat))]) (st := [(0, x24), (2, v0), (2, v0)]) (X := v0) (mc := 0) (ms := 0) (fc := 0) (fs := 0) h ok_X12_whole cls12 im_X12_whole se_X12_whole ml_RX12_125 dX12_timesOf_69 rfl h1 h2 (Nat.le_of_ble_eq_true rfl) rfl ?_
  rintro r K1 H25 ⟨rfl, x26, rfl, h⟩ -
  show Fr mX12_timesOf (d + 1) 0 0 none 72 [(7, (0, x22)), (6, (0, x20)), (5, (0, x18)), (4, (0, (H3 ((H3 (v0 : Int).toNat 31) : Int).toNat (v1 : Int).toNat))), (3, (0, (H3 ((H3 (v0 : Int).toNat 34) : Int).toNat (((2 * v1) + v2) : Int).toNat))), (0, (2, v0)), (1, (0, v1)), (2, (0, v2))] [(0, x26), (0, x24), (2, v0), (2, v0)] _ H25 _
  refine r_invV (M := mX12_timesOf) (As := [(0, x24), (0, x26)]) (st := [(2, v0)]) (X := v0) (mc := 0) (ms := 0) (fc := 0) (fs := 0) h ok_X12_product cls12 im_X12_product se_X12_product ml_RX12_281 dX12_timesOf_72 rfl h1 h2 (Nat.le_of_ble_eq_true rfl) rfl ?_
  rintro r K1 H27 ⟨rfl, x28, rfl, h⟩ -
  show Fr mX12_timesOf (d + 1) 0 0 none 75 [(7, (0, x22)), (6, (0, x20)), (5, (0, x18)), (4, (0, (H3 ((H3 (v0 : Int).toNat 31) : Int).toNat (v1 : Int).toNat))), (3, (0, (H3 ((H3 (v0 : Int).toNat 34) : Int).toNat (((2 * v1) + v2) : Int).toNat))), (0, (2, v0)), (1, (0, v1)), (2, (0, v2))] [(0, x28), (2, v0)] _ H27 _
  refine r_aload_n 5 dX12_timesOf_75 rfl rfl ?_
  refine r_iload 1 dX12_timesOf_76 rfl ?_
  refine r_iload 0 dX12_timesOf_78 rfl ?_
  refine r_invV (M := mX12_timesOf) (As := [(0, x20), (0, x22)]) (st := [(0, x28), (2, v0)]) (X := v0) (mc := 0) (ms := 0) (fc := 0) (fs := 0) h ok_X12_product cls12 im_X12_product se_X12_product ml_RX12_281 dX12_timesOf_80 rfl h1 h2 (Nat.le_of_ble_eq_true rfl) rfl ?_
  rintro r K1 H29 ⟨rfl, x30, rfl, h⟩ -
  show Fr mX12_timesOf (d + 1) 0 0 none 83 [(7, (0, x22)), (6, (0, x20)), (5, (0, x18)), (4, (0, (H3 ((H3 (v0 : Int).toNat 31) : Int).toNat (v1 : Int).toNat))), (3, (0, (H3 ((H3 (v0 : Int).toNat 34) : Int).toNat (((2 * v1) + v2) : Int).toNat))), (0, (2, v0)), (1, (0, v1)), (2, (0, v2))] [(0, x30), (0, x28), (2, v0)] _ H29 _
  refine r_invV (M := mX12_timesOf) (As := [(0, x28), (0, x30)]) (st := []) (X := v0) (mc := 0) (ms := 0) (fc := 0) (fs := 0) h ok_X12_product cls12 im_X12_product se_X12_product ml_RX12_281 dX12_timesOf_83 rfl h1 h2 (Nat.le_of_ble_eq_true rfl) rfl ?_
  rintro r K1 H31 ⟨rfl, x32, rfl, h⟩ -
  show Fr mX12_timesOf (d + 1) 0 0 none 86 [(7, (0, x22)), (6, (0, x20)), (5, (0, x18)), (4, (0, (H3 ((H3 (v0 : Int).toNat 31) : Int).toNat (v1 : Int).toNat))), (3, (0, (H3 ((H3 (v0 : Int).toNat 34) : Int).toNat (((2 * v1) + v2) : Int).toNat))), (0, (2, v0)), (1, (0, v1)), (2, (0, v2))] [(0, x32)] _ H31 _
  refine r_istore dX12_timesOf_86 (by decide) rfl ?_
  refine r_aload_n 6 dX12_timesOf_88 rfl rfl ?_
  refine r_iload 0 dX12_timesOf_89 rfl ?_
  refine r_aload_n 6 dX12_timesOf_91 rfl rfl ?_
  refine r_aload_n 6 dX12_timesOf_92 rfl rfl ?_
  refine r_aload_n 6 dX12_timesOf_93 rfl rfl ?_
  refine r_aload_n 6 dX12_timesOf_94 rfl rfl ?_
  refine r_getf cls12 41 dX12_timesOf_95 (by decide) fl_RX12_296 rfl h1 h2 ?_
  refine r_invV (M := mX12_timesOf) (As := [(1, (H31 (v0 : Int).toNat 41))]) (st := [(2, v0), (2, v0), (0, x32), (2, v0)]) (X := v0) (mc := 0) (ms := 0) (fc := 0) (fs := 0) h ok_X12_whole cls12 im_X12_whole se_X12_whole ml_RX12_125 dX12_timesOf_98 rfl h1 h2 (Nat.le_of_ble_eq_true rfl) rfl ?_
  rintro r K1 H33 ⟨rfl, x34, rfl, h⟩ -
  show Fr mX12_timesOf (d + 1) 0 0 none 101 [(8, (0, x32)), (7, (0, x22)), (6, (0, x20)), (5, (0, x18)), (4, (0, (H3 ((H3 (v0 : Int).toNat 31) : Int).toNat (v1 : Int).toNat))), (3, (0, (H3 ((H3 (v0 : Int).toNat 34) : Int).toNat (((2 * v1) + v2) : Int).toNat))), (0, (2, v0)), (1, (0, v1)), (2, (0, v2))] [(0, x34), (2, v0), (2, v0), (0, x32), (2, v0)] _ H33 _
  refine r_aload_n 6 dX12_timesOf_101 rfl rfl ?_
  refine r_iload 4 dX12_timesOf_102 rfl ?_
  refine r_iload_n 5 dX12_timesOf_104 rfl rfl ?_
  obtain ⟨h35, h⟩ := h
  refine r_isub dX12_timesOf_105 h35 ?_
  refine r_i2l dX12_timesOf_106 ?_
  refine r_invV (M := mX12_timesOf) (As := [(1, ((H3 ((H3 (v0 : Int).toNat 31) : Int).toNat (v1 : Int).toNat) - (H3 ((H3 (v0 : Int).toNat 34) : Int).toNat (((2 * v1) + v2) : Int).toNat)))]) (st := [(0, x34), (2, v0), (2, v0), (0, x32), (2, v0)]) (X := v0) (mc := 0) (ms := 0) (fc := 0) (fs := 0) h ok_X12_whole cls12 im_X12_whole se_X12_whole ml_RX12_125 dX12_timesOf_107 rfl h1 h2 (Nat.le_of_ble_eq_true rfl) rfl ?_
  rintro r K1 H36 ⟨rfl, x37, rfl, h⟩ -
  show Fr mX12_timesOf (d + 1) 0 0 none 110 [(8, (0, x32)), (7, (0, x22)), (6, (0, x20)), (5, (0, x18)), (4, (0, (H3 ((H3 (v0 : Int).toNat 31) : Int).toNat (v1 : Int).toNat))), (3, (0, (H3 ((H3 (v0 : Int).toNat 34) : Int).toNat (((2 * v1) + v2) : Int).toNat))), (0, (2, v0)), (1, (0, v1)), (2, (0, v2))] [(0, x37), (0, x34), (2, v0), (2, v0), (0, x32), (2, v0)] _ H36 _
  refine r_invV (M := mX12_timesOf) (As := [(0, x34), (0, x37)]) (st := [(2, v0), (0, x32), (2, v0)]) (X := v0) (mc := 0) (ms := 0) (fc := 0) (fs := 0) h ok_X12_product cls12 im_X12_product se_X12_product ml_RX12_281 dX12_timesOf_110 rfl h1 h2 (Nat.le_of_ble_eq_true rfl) rfl ?_
  rintro r K1 H38 ⟨rfl, x39, rfl, h⟩ -
  show Fr mX12_timesOf (d + 1) 0 0 none 113 [(8, (0, x32)), (7, (0, x22)), (6, (0, x20)), (5, (0, x18)), (4, (0, (H3 ((H3 (v0 : Int).toNat 31) : Int).toNat (v1 : Int).toNat))), (3, (0, (H3 ((H3 (v0 : Int).toNat 34) : Int).toNat (((2 * v1) + v2) : Int).toNat))), (0, (2, v0)), (1, (0, v1)), (2, (0, v2))] [(0, x39), (2, v0), (0, x32), (2, v0)] _ H38 _
  refine r_aload_n 6 dX12_timesOf_113 rfl rfl ?_
  refine r_iload 3 dX12_timesOf_114 rfl ?_
  refine r_iload 1 dX12_timesOf_116 rfl ?_
  refine r_invV (M := mX12_timesOf) (As := [(0, x18), (0, x22)]) (st := [(0, x39), (2, v0), (0, x32), (2, v0)]) (X := v0) (mc := 0) (ms := 0) (fc := 0) (fs := 0) h ok_X12_product cls12 im_X12_product se_X12_product ml_RX12_281 dX12_timesOf_118 rfl h1 h2 (Nat.le_of_ble_eq_true rfl) rfl ?_
  rintro r K1 H40 ⟨rfl, x41, rfl, h⟩ -
  show Fr mX12_timesOf (d + 1) 0 0 none 121 [(8, (0, x32)), (7, (0, x22)), (6, (0, x20)), (5, (0, x18)), (4, (0, (H3 ((H3 (v0 : Int).toNat 31) : Int).toNat (v1 : Int).toNat))), (3, (0, (H3 ((H3 (v0 : Int).toNat 34) : Int).toNat (((2 * v1) + v2) : Int).toNat))), (0, (2, v0)), (1, (0, v1)), (2, (0, v2))] [(0, x41), (0, x39), (2, v0), (0, x32), (2, v0)] _ H40 _
  refine r_invV (M := mX12_timesOf) (As := [(0, x39), (0, x41)]) (st := [(0, x32), (2, v0)]) (X := v0) (mc := 0) (ms := 0) (fc := 0) (fs := 0) h ok_X12_product cls12 im_X12_product se_X12_product ml_RX12_281 dX12_timesOf_121 rfl h1 h2 (Nat.le_of_ble_eq_true rfl) rfl ?_
  rintro r K1 H42 ⟨rfl, x43, rfl, h⟩ -
  show Fr mX12_timesOf (d + 1) 0 0 none 124 [(8, (0, x32)), (7, (0, x22)), (6, (0, x20)), (5, (0, x18)), (4, (0, (H3 ((H3 (v0 : Int).toNat 31) : Int).toNat (v1 : Int).toNat))), (3, (0, (H3 ((H3 (v0 : Int).toNat 34) : Int).toNat (((2 * v1) + v2) : Int).toNat))), (0, (2, v0)), (1, (0, v1)), (2, (0, v2))] [(0, x43), (0, x32), (2, v0)] _ H42 _
  refine r_invV (M := mX12_timesOf) (As := [(0, x32), (0, x43)]) (st := []) (X := v0) (mc := 0) (ms := 0) (fc := 0) (fs := 0) h ok_X12_sum cls12 im_X12_sum se_X12_sum ml_RX12_132 dX12_timesOf_124 rfl h1 h2 (Nat.le_of_ble_eq_true rfl) rfl ?_
  rintro r K1 H44 ⟨rfl, x45, rfl, h⟩ -
  show Fr mX12_timesOf (d + 1) 0 0 none 127 [(8, (0, x32)), (7, (0, x22)), (6, (0, x20)), (5, (0, x18)), (4, (0, (H3 ((H3 (v0 : Int).toNat 31) : Int).toNat (v1 : Int).toNat))), (3, (0, (H3 ((H3 (v0 : Int).toNat 34) : Int).toNat (((2 * v1) + v2) : Int).toNat))), (0, (2, v0)), (1, (0, v1)), (2, (0, v2))] [(0, x45)] _ H44 _
  refine r_istore dX12_timesOf_127 (by decide) rfl ?_
  refine r_aload_n 6 dX12_timesOf_129 rfl rfl ?_
  refine r_aload_n 6 dX12_timesOf_130 rfl rfl ?_
  refine r_iload 0 dX12_timesOf_131 rfl ?_
  refine r_aload_n 6 dX12_timesOf_133 rfl rfl ?_
  refine r_aload_n 6 dX12_timesOf_134 rfl rfl ?_
  refine r_aload_n 6 dX12_timesOf_135 rfl rfl ?_
  refine r_aload_n 6 dX12_timesOf_136 rfl rfl ?_
  refine r_getf cls12 42 dX12_timesOf_137 (by decide) fl_RX12_302 rfl h1 h2 ?_
  refine r_invV (M := mX12_timesOf) (As := [(1, (H44 (v0 : Int).toNat 42))]) (st := [(2, v0), (2, v0), (0, x45), (2, v0), (2, v0)]) (X := v0) (mc := 0) (ms := 0) (fc := 0) (fs := 0) h ok_X12_whole cls12 im_X12_whole se_X12_whole ml_RX12_125 dX12_timesOf_140 rfl h1 h2 (Nat.le_of_ble_eq_true rfl) rfl ?_
  rintro r K1 H46 ⟨rfl, x47, rfl, h⟩ -
  show Fr mX12_timesOf (d + 1) 0 0 none 143 [(8, (0, x45)), (7, (0, x22)), (6, (0, x20)), (5, (0, x18)), (4, (0, (H3 ((H3 (v0 : Int).toNat 31) : Int).toNat (v1 : Int).toNat))), (3, (0, (H3 ((H3 (v0 : Int).toNat 34) : Int).toNat (((2 * v1) + v2) : Int).toNat))), (0, (2, v0)), (1, (0, v1)), (2, (0, v2))] [(0, x47), (2, v0), (2, v0), (0, x45), (2, v0), (2, v0)] _ H46 _
  refine r_aload_n 6 dX12_timesOf_143 rfl rfl ?_
  refine r_iload_n 5 dX12_timesOf_144 rfl rfl ?_
  refine r_i2l dX12_timesOf_145 ?_
  refine r_invV (M := mX12_timesOf) (As := [(1, (H3 ((H3 (v0 : Int).toNat 34) : Int).toNat (((2 * v1) + v2) : Int).toNat))]) (st := [(0, x47), (2, v0), (2, v0), (0, x45), (2, v0), (2, v0)]) (X := v0) (mc := 0) (ms := 0) (fc := 0) (fs := 0) h ok_X12_whole cls12 im_X12_whole se_X12_whole ml_RX12_125 dX12_timesOf_146 rfl h1 h2 (Nat.le_of_ble_eq_true rfl) rfl ?_
  rintro r K1 H48 ⟨rfl, x49, rfl, h⟩ -
  show Fr mX12_timesOf (d + 1) 0 0 none 149 [(8, (0, x45)), (7, (0, x22)), (6, (0, x20)), (5, (0, x18)), (4, (0, (H3 ((H3 (v0 : Int).toNat 31) : Int).toNat (v1 : Int).toNat))), (3, (0, (H3 ((H3 (v0 : Int).toNat 34) : Int).toNat (((2 * v1) + v2) : Int).toNat))), (0, (2, v0)), (1, (0, v1)), (2, (0, v2))] [(0, x49), (0, x47), (2, v0), (2, v0), (0, x45), (2, v0), (2, v0)] _ H48 _
  refine r_invV (M := mX12_timesOf) (As := [(0, x47), (0, x49)]) (st := [(2, v0), (0, x45), (2, v0), (2, v0)]) (X := v0) (mc := 0) (ms := 0) (fc := 0) (fs := 0) h ok_X12_product cls12 im_X12_product se_X12_product ml_RX12_281 dX12_timesOf_149 rfl h1 h2 (Nat.le_of_ble_eq_true rfl) rfl ?_
  rintro r K1 H50 ⟨rfl, x51, rfl, h⟩ -
  show Fr mX12_timesOf (d + 1) 0 0 none 152 [(8, (0, x45)), (7, (0, x22)), (6, (0, x20)), (5, (0, x18)), (4, (0, (H3 ((H3 (v0 : Int).toNat 31) : Int).toNat (v1 : Int).toNat))), (3, (0, (H3 ((H3 (v0 : Int).toNat 34) : Int).toNat (((2 * v1) + v2) : Int).toNat))), (0, (2, v0)), (1, (0, v1)), (2, (0, v2))] [(0, x51), (2, v0), (0, x45), (2, v0), (2, v0)] _ H50 _
  refine r_aload_n 6 dX12_timesOf_152 rfl rfl ?_
  refine r_iload 3 dX12_timesOf_153 rfl ?_
  refine r_iload 2 dX12_timesOf_155 rfl ?_
  refine r_invV (M := mX12_timesOf) (As := [(0, x18), (0, x20)]) (st := [(0, x51), (2, v0), (0, x45), (2, v0), (2, v0)]) (X := v0) (mc := 0) (ms := 0) (fc := 0) (fs := 0) h ok_X12_product cls12 im_X12_product se_X12_product ml_RX12_281 dX12_timesOf_157 rfl h1 h2 (Nat.le_of_ble_eq_true rfl) rfl ?_
  rintro r K1 H52 ⟨rfl, x53, rfl, h⟩ -
  show Fr mX12_timesOf (d + 1) 0 0 none 160 [(8, (0, x45)), (7, (0, x22)), (6, (0, x20)), (5, (0, x18)), (4, (0, (H3 ((H3 (v0 : Int).toNat 31) : Int).toNat (v1 : Int).toNat))), (3, (0, (H3 ((H3 (v0 : Int).toNat 34) : Int).toNat (((2 * v1) + v2) : Int).toNat))), (0, (2, v0)), (1, (0, v1)), (2, (0, v2))] [(0, x53), (0, x51), (2, v0), (0, x45), (2, v0), (2, v0)] _ H52 _
  refine r_invV (M := mX12_timesOf) (As := [(0, x51), (0, x53)]) (st := [(0, x45), (2, v0), (2, v0)]) (X := v0) (mc := 0) (ms := 0) (fc := 0) (fs := 0) h ok_X12_product cls12 im_X12_product se_X12_product ml_RX12_281 dX12_timesOf_160 rfl h1 h2 (Nat.le_of_ble_eq_true rfl) rfl ?_
  rintro r K1 H54 ⟨rfl, x55, rfl, h⟩ -
  show Fr mX12_timesOf (d + 1) 0 0 none 163 [(8, (0, x45)), (7, (0, x22)), (6, (0, x20)), (5, (0, x18)), (4, (0, (H3 ((H3 (v0 : Int).toNat 31) : Int).toNat (v1 : Int).toNat))), (3, (0, (H3 ((H3 (v0 : Int).toNat 34) : Int).toNat (((2 * v1) + v2) : Int).toNat))), (0, (2, v0)), (1, (0, v1)), (2, (0, v2))] [(0, x55), (0, x45), (2, v0), (2, v0)] _ H54 _
  refine r_invV (M := mX12_timesOf) (As := [(0, x45), (0, x55)]) (st := [(2, v0)]) (X := v0) (mc := 0) (ms := 0) (fc := 0) (fs := 0) h ok_X12_sum cls12 im_X12_sum se_X12_sum ml_RX12_132 dX12_timesOf_163 rfl h1 h2 (Nat.le_of_ble_eq_true rfl) rfl ?_
  rintro r K1 H56 ⟨rfl, x57, rfl, h⟩ -
  show Fr mX12_timesOf (d + 1) 0 0 none 166 [(8, (0, x45)), (7, (0, x22)), (6, (0, x20)), (5, (0, x18)), (4, (0, (H3 ((H3 (v0 : Int).toNat 31) : Int).toNat (v1 : Int).toNat))), (3, (0, (H3 ((H3 (v0 : Int).toNat 34) : Int).toNat (((2 * v1) + v2) : Int).toNat))), (0, (2, v0)), (1, (0, v1)), (2, (0, v2))] [(0, x57), (2, v0)] _ H56 _
  refine r_putf cls12 47 dX12_timesOf_166 (by decide) rfl fl_RX12_314 rfl h1 h2 (fun o => o) ?_
  replace h := h _ rfl
  generalize upA H56 (v0 : Int).toNat (up1 (H56 (v0 : Int).toNat) 47 x57) = H58 at h ⊢
  refine r_aload_n 6 dX12_timesOf_169 rfl rfl ?_
  refine r_aload_n 6 dX12_timesOf_170 rfl rfl ?_
  refine r_aload_n 6 dX12_timesOf_171 rfl rfl ?_
  refine r_iload 3 dX12_timesOf_172 rfl ?_
  refine r_aload_n 6 dX12_timesOf_174 rfl rfl ?_
  refine r_iload 2 dX12_timesOf_175 rfl ?_
  refine r_iload 1 dX12_timesOf_177 rfl ?_
  refine r_invV (M := mX12_timesOf) (As := [(0, x20), (0, x22)]) (st := [(0, x18), (2, v0), (2, v0), (2, v0)]) (X := v0) (mc := 0) (ms := 0) (fc := 0) (fs := 0) h ok_X12_product cls12 im_X12_product se_X12_product ml_RX12_281 dX12_timesOf_179 rfl h1 h2 (Nat.le_of_ble_eq_true rfl) rfl ?_
  rintro r K1 H59 ⟨rfl, x60, rfl, h⟩ -
  show Fr mX12_timesOf (d + 1) 0 0 none 182 [(8, (0, x45)), (7, (0, x22)), (6, (0, x20)), (5, (0, x18)), (4, (0, (H3 ((H3 (v0 : Int).toNat 31) : Int).toNat (v1 : Int).toNat))), (3, (0, (H3 ((H3 (v0 : Int).toNat 34) : Int).toNat (((2 * v1) + v2) : Int).toNat))), (0, (2, v0)), (1, (0, v1)), (2, (0, v2))] [(0, x60), (0, x18), (2, v0), (2, v0), (2, v0)] _ H59 _
  refine r_invV (M := mX12_timesOf) (As := [(0, x18), (0, x60)]) (st := [(2, v0), (2, v0)]) (X := v0) (mc := 0) (ms := 0) (fc := 0) (fs := 0) h ok_X12_product cls12 im_X12_product se_X12_product ml_RX12_281 dX12_timesOf_182 rfl h1 h2 (Nat.le_of_ble_eq_true rfl) rfl ?_
  rintro r K1 H61 ⟨rfl, x62, rfl, h⟩ -
  show Fr mX12_timesOf (d + 1) 0 0 none 185 [(8, (0, x45)), (7, (0, x22)), (6, (0, x20)), (5, (0, x18)), (4, (0, (H3 ((H3 (v0 : Int).toNat 31) : Int).toNat (v1 : Int).toNat))), (3, (0, (H3 ((H3 (v0 : Int).toNat 34) : Int).toNat (((2 * v1) + v2) : Int).toNat))), (0, (2, v0)), (1, (0, v1)), (2, (0, v2))] [(0, x62), (2, v0), (2, v0)] _ H61 _
  refine r_aload_n 6 dX12_timesOf_185 rfl rfl ?_
  refine r_aload_n 6 dX12_timesOf_186 rfl rfl ?_
  refine r_getf cls12 46 dX12_timesOf_187 (by decide) fl_RX12_308 rfl h1 h2 ?_
  refine r_invV (M := mX12_timesOf) (As := [(1, (H61 (v0 : Int).toNat 46))]) (st := [(0, x62), (2, v0), (2, v0)]) (X := v0) (mc := 0) (ms := 0) (fc := 0) (fs := 0) h ok_X12_whole cls12 im_X12_whole se_X12_whole ml_RX12_125 dX12_timesOf_190 rfl h1 h2 (Nat.le_of_ble_eq_true rfl) rfl ?_
  rintro r K1 H63 ⟨rfl, x64, rfl, h⟩ -
  show Fr mX12_timesOf (d + 1) 0 0 none 193 [(8, (0, x45)), (7, (0, x22)), (6, (0, x20)), (5, (0, x18)), (4, (0, (H3 ((H3 (v0 : Int).toNat 31) : Int).toNat (v1 : Int).toNat))), (3, (0, (H3 ((H3 (v0 : Int).toNat 34) : Int).toNat (((2 * v1) + v2) : Int).toNat))), (0, (2, v0)), (1, (0, v1)), (2, (0, v2))] [(0, x64), (0, x62), (2, v0), (2, v0)] _ H63 _
  refine r_invV (M := mX12_timesOf) (As := [(0, x62), (0, x64)]) (st := [(2, v0)]) (X := v0) (mc := 0) (ms := 0) (fc := 0) (fs := 0) h ok_X12_product cls12 im_X12_product se_X12_product ml_RX12_281 dX12_timesOf_193 rfl h1 h2 (Nat.le_of_ble_eq_true rfl) rfl ?_
  rintro r K1 H65 ⟨rfl, x66, rfl, h⟩ -
  show Fr mX12_timesOf (d + 1) 0 0 none 196 [(8, (0, x45)), (7, (0, x22)), (6, (0, x20)), (5, (0, x18)), (4, (0, (H3 ((H3 (v0 : Int).toNat 31) : Int).toNat (v1 : Int).toNat))), (3, (0, (H3 ((H3 (v0 : Int).toNat 34) : Int).toNat (((2 * v1) + v2) : Int).toNat))), (0, (2, v0)), (1, (0, v1)), (2, (0, v2))] [(0, x66), (2, v0)] _ H65 _
  refine r_putf cls12 48 dX12_timesOf_196 (by decide) rfl fl_RX12_317 rfl h1 h2 (fun o => o) ?_
  replace h := h _ rfl
  generalize upA H65 (v0 : Int).toNat (up1 (H65 (v0 : Int).toNat) 48 x66) = H67 at h ⊢
  exact r_vret dX12_timesOf_199 rfl ⟨rfl, rfl, h⟩
set_option maxHeartbeats 4000000 in
set_option maxRecDepth 20000 in
theorem eX12_timesOf {d : Nat} {K : Shp} {H : Mem} {q : Mem → Prop} {v0 v1 v2 : Int} (h : inI v1 → inI v2 → Rng K H → FX12_timesOf_0 d K H q v0 v1 v2) : Cv mX12_timesOf (d + 1) [(2, v0), (0, v1), (0, v2)] K H q := Call.of rfl (Nat.le_of_ble_eq_true rfl) (fun o r => h (o (0, v1) (by simp)) (o (0, v2) (by simp)) r)
def FX12_times_0 (d : Nat) (K : Shp) (H : Mem) (q : Int → Mem → Prop) (v0 : Int) (v1 : Int) (v2 : Int) : Prop := Fr mX12_times (d + 1) 0 0 none 0 [(0, (2, v0)), (1, (0, v1)), (2, (0, v2))] [] K H (qi K q)
set_option maxHeartbeats 4000000 in
set_option maxRecDepth 20000 in
theorem bX12_times_0 {d : Nat} {K : Shp} {H : Mem} {q : Int → Mem → Prop} {v0 v1 v2 : Int} (h : ((0 : Int) ≤ v0) ∧ (K[(v0 : Int).toNat]? = some (12, 51)) ∧ Ci mX12_isSpan d [(2, v0), (0, v1)] K H (fun x4 H3 => (((x4 : Int) = 0 → Ci mX12_refuse d [(2, v0), (0, 1)] K H3 (fun x7 H6 => q x7 H6)) ∧ (¬ (x4 : Int) = 0 → (((v2 : Int) < 0 → Ci mX12_refuse d [(2, v0), (0, 1)] K H3 (fun x10 H9 => q x10 H9)) ∧ (¬ (v2 : Int) < 0 → ((0 : Int) ≤ (H3 (v0 : Int).toNat 33)) ∧ ∃ n12 : Nat, (K[((H3 (v0 : Int).toNat 33) : Int).toNat]? = some (20, n12)) ∧ ((0 : Int) ≤ v1) ∧ ((v1 : Int) < n12) ∧ (((v2 : Int) < (H3 ((H3 (v0 : Int).toNat 33) : Int).toNat (v1 : Int).toNat) → ∀ H17 : Mem, H17 = upA H3 (v0 : Int).toNat (up1 (H3 (v0 : Int).toNat) 2 0) → Cv mX12_timesOf d [(2, v0), (0, v1), (0, v2)] K H17 (fun H18 => Ci mX12_tells d [(2, v0), (0, (H18 (v0 : Int).toNat 47)), (0, (H18 (v0 : Int).toNat 48))] K H18 (fun x21 H20 => q x21 H20))) ∧ (¬ (v2 : Int) < (H3 ((H3 (v0 : Int).toNat 33) : Int).toNat (v1 : Int).toNat) → Ci mX12_refuse d [(2, v0), (0, 1)] K H3 (fun x23 H22 => q x23 H22))))))))) : FX12_times_0 d K H q (v0) (v1) (v2) := by
  unfold FX12_times_0
  refine r_aload_n 0 dX12_times_0 rfl rfl ?_
  refine r_iload_n 1 dX12_times_1 rfl rfl ?_
  obtain ⟨h1, h⟩ := h
  obtain ⟨h2, h⟩ := h
  refine r_invV (M := mX12_times) (As := [(0, v1)]) (st := []) (X := v0) (mc := 0) (ms := 0) (fc := 0) (fs := 0) h ok_X12_isSpan cls12 im_X12_isSpan se_X12_isSpan ml_RX12_264 dX12_times_2 rfl h1 h2 (Nat.le_of_ble_eq_true rfl) rfl ?_
  rintro r K1 H3 ⟨rfl, x4, rfl, h⟩ -
  show Fr mX12_times (d + 1) 0 0 none 5 [(0, (2, v0)), (1, (0, v1)), (2, (0, v2))] [(0, x4)] _ H3 _
  refine r_if_eq (tgt := 22) dX12_times_5 (by decide) (fun c5 => ?_) (fun c5 => ?_)
  · replace h := h.1 c5
    refine r_aload_n 0 dX12_times_22 rfl rfl ?_
    refine r_iconst dX12_times_23 (by decide) (by decide) ?_
    refine r_invV (M := mX12_times) (As := [(0, 1)]) (st := []) (X := v0) (mc := 0) (ms := 0) (fc := 0) (fs := 0) h ok_X12_refuse cls12 im_X12_refuse se_X12_refuse ml_RX12_184 dX12_times_24 rfl h1 h2 (Nat.le_of_ble_eq_true rfl) rfl ?_
    rintro r K1 H6 ⟨rfl, x7, rfl, h⟩ -
    show Fr mX12_times (d + 1) 0 0 none 27 [(0, (2, v0)), (1, (0, v1)), (2, (0, v2))] [(0, x7)] _ H6 _
    exact r_iret dX12_times_27 rfl ⟨rfl, _, rfl, h⟩
  · replace h := h.2 c5
    refine r_iload_n 2 dX12_times_8 rfl rfl ?_
    refine r_if_lt (tgt := 22) dX12_times_9 (by decide) (fun c8 => ?_) (fun c8 => ?_)
    · replace h := h.1 c8
      refine r_aload_n 0 dX12_times_22 rfl rfl ?_
      refine r_iconst dX12_times_23 (by decide) (by decide) ?_
      refine r_invV (M := mX12_times) (As := [(0, 1)]) (st := []) (X := v0) (mc := 0) (ms := 0) (fc := 0) (fs := 0) h ok_X12_refuse cls12 im_X12_refuse se_X12_refuse ml_RX12_184 dX12_times_24 rfl h1 h2 (Nat.le_of_ble_eq_true rfl) rfl ?_
      rintro r K1 H9 ⟨rfl, x10, rfl, h⟩ -
      show Fr mX12_times (d + 1) 0 0 none 27 [(0, (2, v0)), (1, (0, v1)), (2, (0, v2))] [(0, x10)] _ H9 _
      exact r_iret dX12_times_27 rfl ⟨rfl, _, rfl, h⟩
    · replace h := h.2 c8
      refine r_iload_n 2 dX12_times_12 rfl rfl ?_
      refine r_aload_n 0 dX12_times_13 rfl rfl ?_
      refine r_getf cls12 33 dX12_times_14 (by decide) fl_RX12_73 rfl h1 h2 ?_
      refine r_iload_n 1 dX12_times_17 rfl rfl ?_
      obtain ⟨h11, h⟩ := h
      obtain ⟨n12, h⟩ := h
      obtain ⟨h13, h⟩ := h
      obtain ⟨h14, h⟩ := h
      obtain ⟨h15, h⟩ := h
      refine r_iald n12 dX12_times_18 h11 h13 h14 h15 ?_
      refine r_icmp_lt (tgt := 28) dX12_times_19 (by decide) (fun c16 => ?_) (fun c16 => ?_)
      · replace h := h.1 c16
        refine r_aload_n 0 dX12_times_28 rfl rfl ?_
        refine r_iconst dX12_times_29 (by decide) (by decide) ?_
        refine r_putf cls12 2 dX12_times_30 (by decide) rfl fl_RX12_93 rfl h1 h2 (fun o => o) ?_
        replace h := h _ rfl
        generalize upA H3 (v0 : Int).toNat (up1 (H3 (v0 : Int).toNat) 2 0) = H17 at h ⊢
        refine r_aload_n 0 dX12_times_33 rfl rfl ?_
        refine r_iload_n 1 dX12_times_34 rfl rfl ?_
        refine r_iload_n 2 dX12_times_35 rfl rfl ?_
        refine r_invV (M := mX12_times) (As := [(0, v1), (0, v2)]) (st := []) (X := v0) (mc := 0) (ms := 0) (fc := 0) (fs := 0) h ok_X12_timesOf cls12 im_X12_timesOf se_X12_timesOf ml_RX12_320 dX12_times_36 rfl h1 h2 (Nat.le_of_ble_eq_true rfl) rfl ?_
        rintro r K1 H18 ⟨rfl, rfl, h⟩ -
        show Fr mX12_times (d + 1) 0 0 none 39 [(0, (2, v0)), (1, (0, v1)), (2, (0, v2))] [] _ H18 _
        refine r_aload_n 0 dX12_times_39 rfl rfl ?_
        refine r_aload_n 0 dX12_times_40 rfl rfl ?_
        refine r_getf cls12 47 dX12_times_41 (by decide) fl_RX12_314 rfl h1 h2 ?_
        refine r_aload_n 0 dX12_times_44 rfl rfl ?_
        refine r_getf cls12 48 dX12_times_45 (by decide) fl_RX12_317 rfl h1 h2 ?_
        refine r_invV (M := mX12_times) (As := [(0, (H18 (v0 : Int).toNat 47)), (0, (H18 (v0 : Int).toNat 48))]) (st := []) (X := v0) (mc := 0) (ms := 0) (fc := 0) (fs := 0) h ok_X12_tells cls12 im_X12_tells se_X12_tells ml_RX12_239 dX12_times_48 rfl h1 h2 (Nat.le_of_ble_eq_true rfl) rfl ?_
        rintro r K1 H20 ⟨rfl, x21, rfl, h⟩ -
        show Fr mX12_times (d + 1) 0 0 none 51 [(0, (2, v0)), (1, (0, v1)), (2, (0, v2))] [(0, x21)] _ H20 _
        exact r_iret dX12_times_51 rfl ⟨rfl, _, rfl, h⟩
      · replace h := h.2 c16
        refine r_aload_n 0 dX12_times_22 rfl rfl ?_
        refine r_iconst dX12_times_23 (by decide) (by decide) ?_
        refine r_invV (M := mX12_times) (As := [(0, 1)]) (st := []) (X := v0) (mc := 0) (ms := 0) (fc := 0) (fs := 0) h ok_X12_refuse cls12 im_X12_refuse se_X12_refuse ml_RX12_184 dX12_times_24 rfl h1 h2 (Nat.le_of_ble_eq_true rfl) rfl ?_
        rintro r K1 H22 ⟨rfl, x23, rfl, h⟩ -
        show Fr mX12_times (d + 1) 0 0 none 27 [(0, (2, v0)), (1, (0, v1)), (2, (0, v2))] [(0, x23)] _ H22 _
        exact r_iret dX12_times_27 rfl ⟨rfl, _, rfl, h⟩
set_option maxHeartbeats 4000000 in
set_option maxRecDepth 20000 in
theorem eX12_times {d : Nat} {K : Shp} {H : Mem} {q : Int → Mem → Prop} {v0 v1 v2 : Int} (h : inI v1 → inI v2 → Rng K H → FX12_times_0 d K H q v0 v1 v2) : Ci mX12_times (d + 1) [(2, v0), (0, v1), (0, v2)] K H q := Call.of rfl (Nat.le_of_ble_eq_true rfl) (fun o r => h (o (0, v1) (by simp)) (o (0, v2) (by simp)) r)
def FX12_keep_0 (d : Nat) (K : Shp) (H : Mem) (q : Mem → Prop) (v0 : Int) (v1 : Int) (v2 : Int) : Prop := Fr mX12_keep (d + 1) 0 0 none 0 [(0, (2, v0)), (1, (0, v1)), (2, (0, v2))] [] K H (qv K q)
def FX12_keep_2 (d : Nat) (K : Shp) (H : Mem) (q : Mem → Prop) (v0 : Int) (v1 : Int) (v2 : Int) (v3 : Int) : Prop := Fr mX12_keep (d + 1) 0 0 none 2 [(0, (2, v0)), (1, (0, v1)), (2, (0, v2)), (3, (0, v3))] [] K H (qv K q)
set_option maxHeartbeats 4000000 in
set_option maxRecDepth 20000 in
theorem bX12_keep_0 {d : Nat} {K : Shp} {H : Mem} {q : Mem → Prop} {v0 v1 v2 : Int} (h : FX12_keep_2 d K H q (v0) (v1) (v2) (0)) : FX12_keep_0 d K H q (v0) (v1) (v2) := by
  unfold FX12_keep_0
  refine r_iconst dX12_keep_0 (by decide) (by decide) ?_
  refine r_istore_n dX12_keep_1 rfl (by decide) rfl ?_
  refine Fr.fewer [1, 2, 3, 0] rfl ?_
  exact h
set_option maxHeartbeats 4000000 in
set_option maxRecDepth 20000 in
theorem bX12_keep_2 {d : Nat} {K : Shp} {H : Mem} {q : Mem → Prop} {v0 v1 v2 v3 : Int} (h : ((0 : Int) ≤ v0) ∧ (K[(v0 : Int).toNat]? = some (12, 51)) ∧ Ci mX12_places d [(2, v0), (0, v2)] K H (fun x4 H3 => ((¬ (v3 : Int) ≤ x4 → q H3) ∧ ((v3 : Int) ≤ x4 → (inI (24 * v1)) ∧ (inI ((24 * v1) + v3)) ∧ (inI (v2 + v3)) ∧ ((0 : Int) ≤ (H3 (v0 : Int).toNat 1)) ∧ ∃ n10 : Nat, (K[((H3 (v0 : Int).toNat 1) : Int).toNat]? = some (20, n10)) ∧ ((0 : Int) ≤ (v2 + v3)) ∧ (((v2 + v3) : Int) < n10) ∧ ((0 : Int) ≤ (H3 (v0 : Int).toNat 49)) ∧ ∃ n15 : Nat, (K[((H3 (v0 : Int).toNat 49) : Int).toNat]? = some (20, n15)) ∧ ((0 : Int) ≤ ((24 * v1) + v3)) ∧ ((((24 * v1) + v3) : Int) < n15) ∧ ∀ H19 : Mem, H19 = upA H3 ((H3 (v0 : Int).toNat 49) : Int).toNat (up1 (H3 ((H3 (v0 : Int).toNat 49) : Int).toNat) (((24 * v1) + v3) : Int).toNat (H3 ((H3 (v0 : Int).toNat 1) : Int).toNat ((v2 + v3) : Int).toNat)) → (inI (v3 + 1)) ∧ FX12_keep_2 d K H19 q (v0) (v1) (v2) ((v3 + 1)))))) : FX12_keep_2 d K H q (v0) (v1) (v2) (v3) := by
  unfold FX12_keep_2
  refine r_iload_n 3 dX12_keep_2 rfl rfl ?_
  refine r_aload_n 0 dX12_keep_3 rfl rfl ?_
  refine r_iload_n 2 dX12_keep_4 rfl rfl ?_
  obtain ⟨h1, h⟩ := h
  obtain ⟨h2, h⟩ := h
  refine r_invV (M := mX12_keep) (As := [(0, v2)]) (st := [(0, v3)]) (X := v0) (mc := 0) (ms := 0) (fc := 0) (fs := 0) h ok_X12_places cls12 im_X12_places se_X12_places ml_RX12_106 dX12_keep_5 rfl h1 h2 (Nat.le_of_ble_eq_true rfl) rfl ?_
  rintro r K1 H3 ⟨rfl, x4, rfl, h⟩ -
  show Fr mX12_keep (d + 1) 0 0 none 8 [(0, (2, v0)), (1, (0, v1)), (2, (0, v2)), (3, (0, v3))] [(0, x4), (0, v3)] _ H3 _
  refine r_icmp_gt (tgt := 36) dX12_keep_8 (by decide) (fun c5 => ?_) (fun c5 => ?_)
  · replace h := h.1 c5
    exact r_vret dX12_keep_36 rfl ⟨rfl, rfl, h⟩
  · replace h := h.2 c5
    refine r_aload_n 0 dX12_keep_11 rfl rfl ?_
    refine r_getf cls12 49 dX12_keep_12 (by decide) fl_RX12_86 rfl h1 h2 ?_
    refine r_bipush dX12_keep_15 (by decide) (by decide) ?_
    refine r_iload_n 1 dX12_keep_17 rfl rfl ?_
    obtain ⟨h6, h⟩ := h
    refine r_imul dX12_keep_18 h6 ?_
    refine r_iload_n 3 dX12_keep_19 rfl rfl ?_
    obtain ⟨h7, h⟩ := h
    refine r_iadd dX12_keep_20 h7 ?_
    refine r_aload_n 0 dX12_keep_21 rfl rfl ?_
    refine r_getf cls12 1 dX12_keep_22 (by decide) fl_RX12_7 rfl h1 h2 ?_
    refine r_iload_n 2 dX12_keep_25 rfl rfl ?_
    refine r_iload_n 3 dX12_keep_26 rfl rfl ?_
    obtain ⟨h8, h⟩ := h
    refine r_iadd dX12_keep_27 h8 ?_
    obtain ⟨h9, h⟩ := h
    obtain ⟨n10, h⟩ := h
    obtain ⟨h11, h⟩ := h
    obtain ⟨h12, h⟩ := h
    obtain ⟨h13, h⟩ := h
    refine r_iald n10 dX12_keep_28 h9 h11 h12 h13 ?_
    obtain ⟨h14, h⟩ := h
    obtain ⟨n15, h⟩ := h
    obtain ⟨h16, h⟩ := h
    obtain ⟨h17, h⟩ := h
    obtain ⟨h18, h⟩ := h
    refine r_iast n15 dX12_keep_29 h14 h16 h17 h18 ?_
    replace h := h _ rfl
    generalize upA H3 ((H3 (v0 : Int).toNat 49) : Int).toNat (up1 (H3 ((H3 (v0 : Int).toNat 49) : Int).toNat) (((24 * v1) + v3) : Int).toNat (H3 ((H3 (v0 : Int).toNat 1) : Int).toNat ((v2 + v3) : Int).toNat)) = H19 at h ⊢
    obtain ⟨h20, h⟩ := h
    refine r_iinc 3 dX12_keep_30 (by decide) rfl h20 rfl ?_
    refine r_goto (tgt := 2) dX12_keep_33 (by decide) ?_
    refine Fr.fewer [1, 2, 3, 0] rfl ?_
    exact h
set_option maxHeartbeats 4000000 in
set_option maxRecDepth 20000 in
theorem eX12_keep {d : Nat} {K : Shp} {H : Mem} {q : Mem → Prop} {v0 v1 v2 : Int} (h : inI v1 → inI v2 → Rng K H → FX12_keep_0 d K H q v0 v1 v2) : Cv mX12_keep (d + 1) [(2, v0), (0, v1), (0, v2)] K H q := Call.of rfl (Nat.le_of_ble_eq_true rfl) (fun o r => h (o (0, v1) (by simp)) (o (0, v2) (by simp)) r)
def FX12_held_0 (d : Nat) (K : Shp) (H : Mem) (q : Int → Mem → Prop) (v0 : Int) (v1 : Int) : Prop := Fr mX12_held (d + 1) 0 0 none 0 [(0, (2, v0)), (1, (0, v1))] [] K H (qi K q)
def FX12_held_19 (d : Nat) (K : Shp) (H : Mem) (q : Int → Mem → Prop) (v0 : Int) (v1 : Int) (v2 : Int) (v3 : Int) (v4 : Int) : Prop := Fr mX12_held (d + 1) 0 0 none 19 [(0, (2, v0)), (1, (0, v1)), (2, (0, v2)), (3, (0, v3)), (4, (0, v4))] [] K H (qi K q)
set_option maxHeartbeats 4000000 in
set_option maxRecDepth 20000 in
theorem bX12_held_0 {d : Nat} {K : Shp} {H : Mem} {q : Int → Mem → Prop} {v0 v1 : Int} (h : ((0 : Int) ≤ v0) ∧ (K[(v0 : Int).toNat]? = some (12, 51)) ∧ (inI (24 * v1)) ∧ ((0 : Int) ≤ (H (v0 : Int).toNat 49)) ∧ ∃ n5 : Nat, (K[((H (v0 : Int).toNat 49) : Int).toNat]? = some (20, n5)) ∧ ((0 : Int) ≤ (24 * v1)) ∧ (((24 * v1) : Int) < n5) ∧ Ci mX12_room d [(2, v0), (0, (H ((H (v0 : Int).toNat 49) : Int).toNat ((24 * v1) : Int).toNat))] K H (fun x10 H9 => FX12_held_19 d K H9 q (v0) (v1) ((H ((H (v0 : Int).toNat 49) : Int).toNat ((24 * v1) : Int).toNat)) (x10) (0))) : FX12_held_0 d K H q (v0) (v1) := by
  unfold FX12_held_0
  refine r_aload_n 0 dX12_held_0 rfl rfl ?_
  obtain ⟨h1, h⟩ := h
  obtain ⟨h2, h⟩ := h
  refine r_getf cls12 49 dX12_held_1 (by decide) fl_RX12_86 rfl h1 h2 ?_
  refine r_bipush dX12_held_4 (by decide) (by decide) ?_
  refine r_iload_n 1 dX12_held_6 rfl rfl ?_
  obtain ⟨h3, h⟩ := h
  refine r_imul dX12_held_7 h3 ?_
  obtain ⟨h4, h⟩ := h
  obtain ⟨n5, h⟩ := h
  obtain ⟨h6, h⟩ := h
  obtain ⟨h7, h⟩ := h
  obtain ⟨h8, h⟩ := h
  refine r_iald n5 dX12_held_8 h4 h6 h7 h8 ?_
  refine r_istore_n dX12_held_9 rfl (by decide) rfl ?_
  refine r_aload_n 1 dX12_held_10 rfl rfl ?_
  refine r_iload_n 0 dX12_held_11 rfl rfl ?_
  refine r_invV (M := mX12_held) (As := [(0, (H ((H (v0 : Int).toNat 49) : Int).toNat ((24 * v1) : Int).toNat))]) (st := []) (X := v0) (mc := 0) (ms := 0) (fc := 0) (fs := 0) h ok_X12_room cls12 im_X12_room se_X12_room ml_RX12_96 dX12_held_12 rfl h1 h2 (Nat.le_of_ble_eq_true rfl) rfl ?_
  rintro r K1 H9 ⟨rfl, x10, rfl, h⟩ -
  show Fr mX12_held (d + 1) 0 0 none 15 [(2, (0, (H ((H (v0 : Int).toNat 49) : Int).toNat ((24 * v1) : Int).toNat))), (0, (2, v0)), (1, (0, v1))] [(0, x10)] _ H9 _
  refine r_istore_n dX12_held_15 rfl (by decide) rfl ?_
  refine r_iconst dX12_held_16 (by decide) (by decide) ?_
  refine r_istore dX12_held_17 (by decide) rfl ?_
  refine Fr.fewer [3, 4, 2, 1, 0] rfl ?_
  exact h
set_option maxHeartbeats 4000000 in
set_option maxRecDepth 20000 in
theorem bX12_held_19 {d : Nat} {K : Shp} {H : Mem} {q : Int → Mem → Prop} {v0 v1 v2 v3 v4 : Int} (h : ((¬ (v4 : Int) ≤ v2 → q v3 H) ∧ ((v4 : Int) ≤ v2 → ((0 : Int) ≤ v0) ∧ (K[(v0 : Int).toNat]? = some (12, 51)) ∧ (inI (v3 + v4)) ∧ (inI (24 * v1)) ∧ (inI ((24 * v1) + v4)) ∧ ((0 : Int) ≤ (H (v0 : Int).toNat 49)) ∧ ∃ n8 : Nat, (K[((H (v0 : Int).toNat 49) : Int).toNat]? = some (20, n8)) ∧ ((0 : Int) ≤ ((24 * v1) + v4)) ∧ ((((24 * v1) + v4) : Int) < n8) ∧ ((0 : Int) ≤ (H (v0 : Int).toNat 1)) ∧ ∃ n13 : Nat, (K[((H (v0 : Int).toNat 1) : Int).toNat]? = some (20, n13)) ∧ ((0 : Int) ≤ (v3 + v4)) ∧ (((v3 + v4) : Int) < n13) ∧ ∀ H17 : Mem, H17 = upA H ((H (v0 : Int).toNat 1) : Int).toNat (up1 (H ((H (v0 : Int).toNat 1) : Int).toNat) ((v3 + v4) : Int).toNat (H ((H (v0 : Int).toNat 49) : Int).toNat (((24 * v1) + v4) : Int).toNat)) → (inI (v4 + 1)) ∧ FX12_held_19 d K H17 q (v0) (v1) (v2) (v3) ((v4 + 1))))) : FX12_held_19 d K H q (v0) (v1) (v2) (v3) (v4) := by
  unfold FX12_held_19
  refine r_iload 4 dX12_held_19 rfl ?_
  refine r_iload_n 2 dX12_held_21 rfl rfl ?_
  refine r_icmp_gt (tgt := 52) dX12_held_22 (by decide) (fun c1 => ?_) (fun c1 => ?_)
  · replace h := h.1 c1
    refine r_iload_n 3 dX12_held_52 rfl rfl ?_
    exact r_iret dX12_held_53 rfl ⟨rfl, _, rfl, h⟩
  · replace h := h.2 c1
    refine r_aload_n 0 dX12_held_25 rfl rfl ?_
    obtain ⟨h2, h⟩ := h
    obtain ⟨h3, h⟩ := h
    refine r_getf cls12 1 dX12_held_26 (by decide) fl_RX12_7 rfl h2 h3 ?_
    refine r_iload_n 3 dX12_held_29 rfl rfl ?_
    refine r_iload 4 dX12_held_30 rfl ?_
    obtain ⟨h4, h⟩ := h
    refine r_iadd dX12_held_32 h4 ?_
    refine r_aload_n 0 dX12_held_33 rfl rfl ?_
    refine r_getf cls12 49 dX12_held_34 (by decide) fl_RX12_86 rfl h2 h3 ?_
    refine r_bipush dX12_held_37 (by decide) (by decide) ?_
    refine r_iload_n 1 dX12_held_39 rfl rfl ?_
    obtain ⟨h5, h⟩ := h
    refine r_imul dX12_held_40 h5 ?_
    refine r_iload 4 dX12_held_41 rfl ?_
    obtain ⟨h6, h⟩ := h
    refine r_iadd dX12_held_43 h6 ?_
    obtain ⟨h7, h⟩ := h
    obtain ⟨n8, h⟩ := h
    obtain ⟨h9, h⟩ := h
    obtain ⟨h10, h⟩ := h
    obtain ⟨h11, h⟩ := h
    refine r_iald n8 dX12_held_44 h7 h9 h10 h11 ?_
    obtain ⟨h12, h⟩ := h
    obtain ⟨n13, h⟩ := h
    obtain ⟨h14, h⟩ := h
    obtain ⟨h15, h⟩ := h
    obtain ⟨h16, h⟩ := h
    refine r_iast n13 dX12_held_45 h12 h14 h15 h16 ?_
    replace h := h _ rfl
    generalize upA H ((H (v0 : Int).toNat 1) : Int).toNat (up1 (H ((H (v0 : Int).toNat 1) : Int).toNat) ((v3 + v4) : Int).toNat (H ((H (v0 : Int).toNat 49) : Int).toNat (((24 * v1) + v4) : Int).toNat)) = H17 at h ⊢
    obtain ⟨h18, h⟩ := h
    refine r_iinc 4 dX12_held_46 (by decide) rfl h18 rfl ?_
    refine r_goto (tgt := 19) dX12_held_49 (by decide) ?_
    refine Fr.fewer [1, 2, 3, 4, 0] rfl ?_
    exact h
set_option maxHeartbeats 4000000 in
set_option maxRecDepth 20000 in
theorem eX12_held {d : Nat} {K : Shp} {H : Mem} {q : Int → Mem → Prop} {v0 v1 : Int} (h : inI v1 → Rng K H → FX12_held_0 d K H q v0 v1) : Ci mX12_held (d + 1) [(2, v0), (0, v1)] K H q := Call.of rfl (Nat.le_of_ble_eq_true rfl) (fun o r => h (o (0, v1) (by simp)) r)
def FX12_finds_0 (d : Nat) (K : Shp) (H : Mem) (q : Int → Mem → Prop) (v0 : Int) : Prop := Fr mX12_finds (d + 1) 0 0 none 0 [(0, (2, v0))] [] K H (qi K q)
def FX12_finds_7 (d : Nat) (K : Shp) (H : Mem) (q : Int → Mem → Prop) (v0 : Int) (v1 : Int) : Prop := Fr mX12_finds (d + 1) 0 0 none 7 [(0, (2, v0)), (1, (0, v1))] [] K H (qi K q)
def FX12_finds_17 (d : Nat) (K : Shp) (H : Mem) (q : Int → Mem → Prop) (v0 : Int) (v1 : Int) (v2 : Int) : Prop := Fr mX12_finds (d + 1) 0 0 none 17 [(0, (2, v0)), (1, (0, v1)), (2, (0, v2))] [] K H (qi K q)
set_option maxHeartbeats 4000000 in
set_option maxRecDepth 20000 in
theorem bX12_finds_0 {d : Nat} {K : Shp} {H : Mem} {q : Int → Mem → Prop} {v0 : Int} (h : ((0 : Int) ≤ v0) ∧ (K[(v0 : Int).toNat]? = some (12, 51)) ∧ ∀ H3 : Mem, H3 = upA H (v0 : Int).toNat (up1 (H (v0 : Int).toNat) 50 (-1)) → FX12_finds_7 d K H3 q (v0) (0)) : FX12_finds_0 d K H q (v0) := by
  unfold FX12_finds_0
  refine r_aload_n 0 dX12_finds_0 rfl rfl ?_
  refine r_iconst dX12_finds_1 (by decide) (by decide) ?_
  obtain ⟨h1, h⟩ := h
  obtain ⟨h2, h⟩ := h
  refine r_putf cls12 50 dX12_finds_2 (by decide) rfl fl_RX12_323 rfl h1 h2 (fun o => o) ?_
  replace h := h _ rfl
  generalize upA H (v0 : Int).toNat (up1 (H (v0 : Int).toNat) 50 (-1)) = H3 at h ⊢
  refine r_iconst dX12_finds_5 (by decide) (by decide) ?_
  refine r_istore_n dX12_finds_6 rfl (by decide) rfl ?_
  refine Fr.fewer [1, 0] rfl ?_
  exact h
set_option maxHeartbeats 4000000 in
set_option maxRecDepth 20000 in
theorem bX12_finds_7 {d : Nat} {K : Shp} {H : Mem} {q : Int → Mem → Prop} {v0 v1 : Int} (h : ((0 : Int) ≤ v0) ∧ (K[(v0 : Int).toNat]? = some (12, 51)) ∧ ((¬ (v1 : Int) < (H (v0 : Int).toNat 37) → ((((H (v0 : Int).toNat 50) : Int) = (-1) → q 0 H) ∧ (¬ ((H (v0 : Int).toNat 50) : Int) = (-1) → q 1 H))) ∧ ((v1 : Int) < (H (v0 : Int).toNat 37) → FX12_finds_17 d K H q (v0) (v1) (0)))) : FX12_finds_7 d K H q (v0) (v1) := by
  unfold FX12_finds_7
  refine r_iload_n 1 dX12_finds_7 rfl rfl ?_
  refine r_aload_n 0 dX12_finds_8 rfl rfl ?_
  obtain ⟨h1, h⟩ := h
  obtain ⟨h2, h⟩ := h
  refine r_getf cls12 37 dX12_finds_9 (by decide) fl_RX12_261 rfl h1 h2 ?_
  refine r_icmp_ge (tgt := 126) dX12_finds_12 (by decide) (fun c3 => ?_) (fun c3 => ?_)
  · replace h := h.1 c3
    refine r_aload_n 0 dX12_finds_126 rfl rfl ?_
    refine r_getf cls12 50 dX12_finds_127 (by decide) fl_RX12_323 rfl h1 h2 ?_
    refine r_iconst dX12_finds_130 (by decide) (by decide) ?_
    refine r_icmp_eq (tgt := 138) dX12_finds_131 (by decide) (fun c4 => ?_) (fun c4 => ?_)
    · replace h := h.1 c4
      refine r_iconst dX12_finds_138 (by decide) (by decide) ?_
      exact r_zret dX12_finds_139 rfl (Or.inl rfl) ⟨rfl, _, rfl, h⟩
    · replace h := h.2 c4
      refine r_iconst dX12_finds_134 (by decide) (by decide) ?_
      refine r_goto (tgt := 139) dX12_finds_135 (by decide) ?_
      exact r_zret dX12_finds_139 rfl (Or.inr rfl) ⟨rfl, _, rfl, h⟩
  · replace h := h.2 c3
    refine r_iconst dX12_finds_15 (by decide) (by decide) ?_
    refine r_istore_n dX12_finds_16 rfl (by decide) rfl ?_
    refine Fr.fewer [1, 2, 0] rfl ?_
    exact h
set_option maxHeartbeats 4000000 in
set_option maxRecDepth 20000 in
theorem bX12_finds_17 {d : Nat} {K : Shp} {H : Mem} {q : Int → Mem → Prop} {v0 v1 v2 : Int} (h : ((0 : Int) ≤ v0) ∧ (K[(v0 : Int).toNat]? = some (12, 51)) ∧ ((0 : Int) ≤ (H (v0 : Int).toNat 33)) ∧ ∃ n4 : Nat, (K[((H (v0 : Int).toNat 33) : Int).toNat]? = some (20, n4)) ∧ ((0 : Int) ≤ v1) ∧ ((v1 : Int) < n4) ∧ ((¬ (v2 : Int) < (H ((H (v0 : Int).toNat 33) : Int).toNat (v1 : Int).toNat) → (inI (v1 + 1)) ∧ FX12_finds_7 d K H q (v0) ((v1 + 1))) ∧ ((v2 : Int) < (H ((H (v0 : Int).toNat 33) : Int).toNat (v1 : Int).toNat) → ∀ H10 : Mem, H10 = upA H (v0 : Int).toNat (up1 (H (v0 : Int).toNat) 2 0) → Cv mX12_timesOf d [(2, v0), (0, v1), (0, v2)] K H10 (fun H11 => ((((H11 (v0 : Int).toNat 50) : Int) = (-1) → (inI (10 * v1)) ∧ (inI ((10 * v1) + v2)) ∧ ∀ H16 : Mem, H16 = upA H11 (v0 : Int).toNat (up1 (H11 (v0 : Int).toNat) 50 ((10 * v1) + v2)) → Cv mX12_keep d [(2, v0), (0, 0), (0, (H16 (v0 : Int).toNat 47))] K H16 (fun H17 => Cv mX12_keep d [(2, v0), (0, 1), (0, (H17 (v0 : Int).toNat 48))] K H17 (fun H19 => (inI (v2 + 1)) ∧ FX12_finds_17 d K H19 q (v0) (v1) ((v2 + 1))))) ∧ (¬ ((H11 (v0 : Int).toNat 50) : Int) = (-1) → Ci mX12_held d [(2, v0), (0, 1)] K H11 (fun x23 H22 => Ci mX12_product d [(2, v0), (0, (H11 (v0 : Int).toNat 47)), (0, x23)] K H22 (fun x25 H24 => Ci mX12_held d [(2, v0), (0, 0)] K H24 (fun x27 H26 => Ci mX12_product d [(2, v0), (0, x27), (0, (H26 (v0 : Int).toNat 48))] K H26 (fun x29 H28 => Ci mX12_less d [(2, v0), (0, x25), (0, x29)] K H28 (fun x31 H30 => Ci mX12_sign d [(2, v0), (0, x31)] K H30 (fun x33 H32 => (((x33 : Int) < 0 → (inI (10 * v1)) ∧ (inI ((10 * v1) + v2)) ∧ ∀ H37 : Mem, H37 = upA H32 (v0 : Int).toNat (up1 (H32 (v0 : Int).toNat) 50 ((10 * v1) + v2)) → Cv mX12_keep d [(2, v0), (0, 0), (0, (H37 (v0 : Int).toNat 47))] K H37 (fun H38 => Cv mX12_keep d [(2, v0), (0, 1), (0, (H38 (v0 : Int).toNat 48))] K H38 (fun H40 => (inI (v2 + 1)) ∧ FX12_finds_17 d K H40 q (v0) (v1) ((v2 + 1))))) ∧ (¬ (x33 : Int) < 0 → (inI (v2 + 1)) ∧ FX12_finds_17 d K H32 q (v0) (v1) ((v2 + 1)))))))))))))))) : FX12_finds_17 d K H q (v0) (v1) (v2) := by
  unfold FX12_finds_17
  refine r_iload_n 2 dX12_finds_17 rfl rfl ?_
  refine r_aload_n 0 dX12_finds_18 rfl rfl ?_
  obtain ⟨h1, h⟩ := h
  obtain ⟨h2, h⟩ := h
  refine r_getf cls12 33 dX12_finds_19 (by decide) fl_RX12_73 rfl h1 h2 ?_
  refine r_iload_n 1 dX12_finds_22 rfl rfl ?_
  obtain ⟨h3, h⟩ := h
  obtain ⟨n4, h⟩ := h
  obtain ⟨h5, h⟩ := h
  obtain ⟨h6, h⟩ := h
  obtain ⟨h7, h⟩ := h
  refine r_iald n4 dX12_finds_23 h3 h5 h6 h7 ?_
  refine r_icmp_ge (tgt := 120) dX12_finds_24 (by decide) (fun c8 => ?_) (fun c8 => ?_)
  · replace h := h.1 c8
    obtain ⟨h9, h⟩ := h
    refine r_iinc 1 dX12_finds_120 (by decide) rfl h9 rfl ?_
    refine r_goto (tgt := 7) dX12_finds_123 (by decide) ?_
    refine Fr.fewer [1, 0] rfl ?_
    exact h
  · replace h := h.2 c8
    refine r_aload_n 0 dX12_finds_27 rfl rfl ?_
    refine r_iconst dX12_finds_28 (by decide) (by decide) ?_
    refine r_putf cls12 2 dX12_finds_29 (by decide) rfl fl_RX12_93 rfl h1 h2 (fun o => o) ?_
    replace h := h _ rfl
    generalize upA H (v0 : Int).toNat (up1 (H (v0 : Int).toNat) 2 0) = H10 at h ⊢
    refine r_aload_n 0 dX12_finds_32 rfl rfl ?_
    refine r_iload_n 1 dX12_finds_33 rfl rfl ?_
    refine r_iload_n 2 dX12_finds_34 rfl rfl ?_
    refine r_invV (M := mX12_finds) (As := [(0, v1), (0, v2)]) (st := []) (X := v0) (mc := 0) (ms := 0) (fc := 0) (fs := 0) h ok_X12_timesOf cls12 im_X12_timesOf se_X12_timesOf ml_RX12_320 dX12_finds_35 rfl h1 h2 (Nat.le_of_ble_eq_true rfl) rfl ?_
    rintro r K1 H11 ⟨rfl, rfl, h⟩ -
    show Fr mX12_finds (d + 1) 0 0 none 38 [(0, (2, v0)), (1, (0, v1)), (2, (0, v2))] [] _ H11 _
    refine r_aload_n 0 dX12_finds_38 rfl rfl ?_
    refine r_getf cls12 50 dX12_finds_39 (by decide) fl_RX12_323 rfl h1 h2 ?_
    refine r_iconst dX12_finds_42 (by decide) (by decide) ?_
    refine r_icmp_eq (tgt := 86) dX12_finds_43 (by decide) (fun c13 => ?_) (fun c13 => ?_)
    · replace h := h.1 c13
      refine r_aload_n 0 dX12_finds_86 rfl rfl ?_
      refine r_bipush dX12_finds_87 (by decide) (by decide) ?_
      refine r_iload_n 1 dX12_finds_89 rfl rfl ?_
      obtain ⟨h14, h⟩ := h
      refine r_imul dX12_finds_90 h14 ?_
      refine r_iload_n 2 dX12_finds_91 rfl rfl ?_
      obtain ⟨h15, h⟩ := h
      refine r_iadd dX12_finds_92 h15 ?_
      refine r_putf cls12 50 dX12_finds_93 (by decide) rfl fl_RX12_323 rfl h1 h2 (fun o => o) ?_
      replace h := h _ rfl
      generalize upA H11 (v0 : Int).toNat (up1 (H11 (v0 : Int).toNat) 50 ((10 * v1) + v2)) = H16 at h ⊢
      refine r_aload_n 0 dX12_finds_96 rfl rfl ?_
      refine r_iconst dX12_finds_97 (by decide) (by decide) ?_
      refine r_aload_n 0 dX12_finds_98 rfl rfl ?_
      refine r_getf cls12 47 dX12_finds_99 (by decide) fl_RX12_314 rfl h1 h2 ?_
      refine r_invV (M := mX12_finds) (As := [(0, 0), (0, (H16 (v0 : Int).toNat 47))]) (st := []) (X := v0) (mc := 0) (ms := 0) (fc := 0) (fs := 0) h ok_X12_keep cls12 im_X12_keep se_X12_keep ml_RX12_329 dX12_finds_102 rfl h1 h2 (Nat.le_of_ble_eq_true rfl) rfl ?_
      rintro r K1 H17 ⟨rfl, rfl, h⟩ -
      show Fr mX12_finds (d + 1) 0 0 none 105 [(0, (2, v0)), (1, (0, v1)), (2, (0, v2))] [] _ H17 _
      refine r_aload_n 0 dX12_finds_105 rfl rfl ?_
      refine r_iconst dX12_finds_106 (by decide) (by decide) ?_
      refine r_aload_n 0 dX12_finds_107 rfl rfl ?_
      refine r_getf cls12 48 dX12_finds_108 (by decide) fl_RX12_317 rfl h1 h2 ?_
      refine r_invV (M := mX12_finds) (As := [(0, 1), (0, (H17 (v0 : Int).toNat 48))]) (st := []) (X := v0) (mc := 0) (ms := 0) (fc := 0) (fs := 0) h ok_X12_keep cls12 im_X12_keep se_X12_keep ml_RX12_329 dX12_finds_111 rfl h1 h2 (Nat.le_of_ble_eq_true rfl) rfl ?_
      rintro r K1 H19 ⟨rfl, rfl, h⟩ -
      show Fr mX12_finds (d + 1) 0 0 none 114 [(0, (2, v0)), (1, (0, v1)), (2, (0, v2))] [] _ H19 _
      obtain ⟨h21, h⟩ := h
      refine r_iinc 2 dX12_finds_114 (by decide) rfl h21 rfl ?_
      refine r_goto (tgt := 17) dX12_finds_117 (by decide) ?_
      refine Fr.fewer [1, 2, 0] rfl ?_
      exact h
    · replace h := h.2 c13
      refine r_aload_n 0 dX12_finds_46 rfl rfl ?_
      refine r_aload_n 0 dX12_finds_47 rfl rfl ?_
      refine r_aload_n 0 dX12_finds_48 rfl rfl ?_
      refine r_aload_n 0 dX12_finds_49 rfl rfl ?_
      refine r_getf cls12 47 dX12_finds_50 (by decide) fl_RX12_314 rfl h1 h2 ?_
      refine r_aload_n 0 dX12_finds_53 rfl rfl ?_
      refine r_iconst dX12_finds_54 (by decide) (by decide) ?_
      refine r_invV (M := mX12_finds) (As := [(0, 1)]) (st := [(0, (H11 (v0 : Int).toNat 47)), (2, v0), (2, v0), (2, v0)]) (X := v0) (mc := 0) (ms := 0) (fc := 0) (fs := 0) h ok_X12_held cls12 im_X12_held se_X12_held ml_RX12_326 dX12_finds_55 rfl h1 h2 (Nat.le_of_ble_eq_true rfl) rfl ?_
      rintro r K1 H22 ⟨rfl, x23, rfl, h⟩ -
      show Fr mX12_finds (d + 1) 0 0 none 58 [(0, (2, v0)), (1, (0, v1)), (2, (0, v2))] [(0, x23), (0, (H11 (v0 : Int).toNat 47)), (2, v0), (2, v0), (2, v0)] _ H22 _
      refine r_invV (M := mX12_finds) (As := [(0, (H11 (v0 : Int).toNat 47)), (0, x23)]) (st := [(2, v0), (2, v0)]) (X := v0) (mc := 0) (ms := 0) (fc := 0) (fs := 0) h ok_X12_product cls12 im_X12_product se_X12_product ml_RX12_281 dX12_finds_58 rfl h1 h2 (Nat.le_of_ble_eq_true rfl) rfl ?_
      rintro r K1 H24 ⟨rfl, x25, rfl, h⟩ -
      show Fr mX12_finds (d + 1) 0 0 none 61 [(0, (2, v0)), (1, (0, v1)), (2, (0, v2))] [(0, x25), (2, v0), (2, v0)] _ H24 _
      refine r_aload_n 0 dX12_finds_61 rfl rfl ?_
      refine r_aload_n 0 dX12_finds_62 rfl rfl ?_
      refine r_iconst dX12_finds_63 (by decide) (by decide) ?_
      refine r_invV (M := mX12_finds) (As := [(0, 0)]) (st := [(2, v0), (0, x25), (2, v0), (2, v0)]) (X := v0) (mc := 0) (ms := 0) (fc := 0) (fs := 0) h ok_X12_held cls12 im_X12_held se_X12_held ml_RX12_326 dX12_finds_64 rfl h1 h2 (Nat.le_of_ble_eq_true rfl) rfl ?_
      rintro r K1 H26 ⟨rfl, x27, rfl, h⟩ -
      show Fr mX12_finds (d + 1) 0 0 none 67 [(0, (2, v0)), (1, (0, v1)), (2, (0, v2))] [(0, x27), (2, v0), (0, x25), (2, v0), (2, v0)] _ H26 _
      refine r_aload_n 0 dX12_finds_67 rfl rfl ?_
      refine r_getf cls12 48 dX12_finds_68 (by decide) fl_RX12_317 rfl h1 h2 ?_
      refine r_invV (M := mX12_finds) (As := [(0, x27), (0, (H26 (v0 : Int).toNat 48))]) (st := [(0, x25), (2, v0), (2, v0)]) (X := v0) (mc := 0) (ms := 0) (fc := 0) (fs := 0) h ok_X12_product cls12 im_X12_product se_X12_product ml_RX12_281 dX12_finds_71 rfl h1 h2 (Nat.le_of_ble_eq_true rfl) rfl ?_
      rintro r K1 H28 ⟨rfl, x29, rfl, h⟩ -
      show Fr mX12_finds (d + 1) 0 0 none 74 [(0, (2, v0)), (1, (0, v1)), (2, (0, v2))] [(0, x29), (0, x25), (2, v0), (2, v0)] _ H28 _
      refine r_invV (M := mX12_finds) (As := [(0, x25), (0, x29)]) (st := [(2, v0)]) (X := v0) (mc := 0) (ms := 0) (fc := 0) (fs := 0) h ok_X12_less cls12 im_X12_less se_X12_less ml_RX12_284 dX12_finds_74 rfl h1 h2 (Nat.le_of_ble_eq_true rfl) rfl ?_
      rintro r K1 H30 ⟨rfl, x31, rfl, h⟩ -
      show Fr mX12_finds (d + 1) 0 0 none 77 [(0, (2, v0)), (1, (0, v1)), (2, (0, v2))] [(0, x31), (2, v0)] _ H30 _
      refine r_invV (M := mX12_finds) (As := [(0, x31)]) (st := []) (X := v0) (mc := 0) (ms := 0) (fc := 0) (fs := 0) h ok_X12_sign cls12 im_X12_sign se_X12_sign ml_RX12_112 dX12_finds_77 rfl h1 h2 (Nat.le_of_ble_eq_true rfl) rfl ?_
      rintro r K1 H32 ⟨rfl, x33, rfl, h⟩ -
      show Fr mX12_finds (d + 1) 0 0 none 80 [(0, (2, v0)), (1, (0, v1)), (2, (0, v2))] [(0, x33)] _ H32 _
      refine r_if_lt (tgt := 86) dX12_finds_80 (by decide) (fun c34 => ?_) (fun c34 => ?_)
      · replace h := h.1 c34
        refine r_aload_n 0 dX12_finds_86 rfl rfl ?_
        refine r_bipush dX12_finds_87 (by decide) (by decide) ?_
        refine r_iload_n 1 dX12_finds_89 rfl rfl ?_
        obtain ⟨h35, h⟩ := h
        refine r_imul dX12_finds_90 h35 ?_
        refine r_iload_n 2 dX12_finds_91 rfl rfl ?_
        obtain ⟨h36, h⟩ := h
        refine r_iadd dX12_finds_92 h36 ?_
        refine r_putf cls12 50 dX12_finds_93 (by decide) rfl fl_RX12_323 rfl h1 h2 (fun o => o) ?_
        replace h := h _ rfl
        generalize upA H32 (v0 : Int).toNat (up1 (H32 (v0 : Int).toNat) 50 ((10 * v1) + v2)) = H37 at h ⊢
        refine r_aload_n 0 dX12_finds_96 rfl rfl ?_
        refine r_iconst dX12_finds_97 (by decide) (by decide) ?_
        refine r_aload_n 0 dX12_finds_98 rfl rfl ?_
        refine r_getf cls12 47 dX12_finds_99 (by decide) fl_RX12_314 rfl h1 h2 ?_
        refine r_invV (M := mX12_finds) (As := [(0, 0), (0, (H37 (v0 : Int).toNat 47))]) (st := []) (X := v0) (mc := 0) (ms := 0) (fc := 0) (fs := 0) h ok_X12_keep cls12 im_X12_keep se_X12_keep ml_RX12_329 dX12_finds_102 rfl h1 h2 (Nat.le_of_ble_eq_true rfl) rfl ?_
        rintro r K1 H38 ⟨rfl, rfl, h⟩ -
        show Fr mX12_finds (d + 1) 0 0 none 105 [(0, (2, v0)), (1, (0, v1)), (2, (0, v2))] [] _ H38 _
        refine r_aload_n 0 dX12_finds_105 rfl rfl ?_
        refine r_iconst dX12_finds_106 (by decide) (by decide) ?_
        refine r_aload_n 0 dX12_finds_107 rfl rfl ?_
        refine r_getf cls12 48 dX12_finds_108 (by decide) fl_RX12_317 rfl h1 h2 ?_
        refine r_invV (M := mX12_finds) (As := [(0, 1), (0, (H38 (v0 : Int).toNat 48))]) (st := []) (X := v0) (mc := 0) (ms := 0) (fc := 0) (fs := 0) h ok_X12_keep cls12 im_X12_keep se_X12_keep ml_RX12_329 dX12_finds_111 rfl h1 h2 (Nat.le_of_ble_eq_true rfl) rfl ?_
        rintro r K1 H40 ⟨rfl, rfl, h⟩ -
        show Fr mX12_finds (d + 1) 0 0 none 114 [(0, (2, v0)), (1, (0, v1)), (2, (0, v2))] [] _ H40 _
        obtain ⟨h42, h⟩ := h
        refine r_iinc 2 dX12_finds_114 (by decide) rfl h42 rfl ?_
        refine r_goto (tgt := 17) dX12_finds_117 (by decide) ?_
        refine Fr.fewer [1, 2, 0] rfl ?_
        exact h
      · replace h := h.2 c34
        refine r_goto (tgt := 114) dX12_finds_83 (by decide) ?_
        obtain ⟨h43, h⟩ := h
        refine r_iinc 2 dX12_finds_114 (by decide) rfl h43 rfl ?_
        refine r_goto (tgt := 17) dX12_finds_117 (by decide) ?_
        refine Fr.fewer [1, 2, 0] rfl ?_
        exact h
set_option maxHeartbeats 4000000 in
set_option maxRecDepth 20000 in
theorem eX12_finds {d : Nat} {K : Shp} {H : Mem} {q : Int → Mem → Prop} {v0 : Int} (h : Rng K H → FX12_finds_0 d K H q v0) : Ci mX12_finds (d + 1) [(2, v0)] K H q := Call.of rfl (Nat.le_of_ble_eq_true rfl) (fun o r => h  r)
def FX12_factor_0 (d : Nat) (K : Shp) (H : Mem) (q : Int → Mem → Prop) (v0 : Int) : Prop := Fr mX12_factor (d + 1) 0 0 none 0 [(0, (2, v0))] [] K H (qi K q)
set_option maxHeartbeats 4000000 in
set_option maxRecDepth 20000 in
theorem bX12_factor_0 {d : Nat} {K : Shp} {H : Mem} {q : Int → Mem → Prop} {v0 : Int} (h : ((0 : Int) ≤ v0) ∧ (K[(v0 : Int).toNat]? = some (12, 51)) ∧ Ci mX12_finds d [(2, v0)] K H (fun x4 H3 => ((¬ (x4 : Int) = 0 → ∀ H6 : Mem, H6 = upA H3 (v0 : Int).toNat (up1 (H3 (v0 : Int).toNat) 2 0) → Ci mX12_held d [(2, v0), (0, 0)] K H6 (fun x8 H7 => Ci mX12_held d [(2, v0), (0, 1)] K H7 (fun x10 H9 => Ci mX12_tells d [(2, v0), (0, x8), (0, x10)] K H9 (fun x12 H11 => q x12 H11)))) ∧ ((x4 : Int) = 0 → Ci mX12_refuse d [(2, v0), (0, 6)] K H3 (fun x14 H13 => q x14 H13))))) : FX12_factor_0 d K H q (v0) := by
  unfold FX12_factor_0
  refine r_aload_n 0 dX12_factor_0 rfl rfl ?_
  obtain ⟨h1, h⟩ := h
  obtain ⟨h2, h⟩ := h
  refine r_invV (M := mX12_factor) (As := []) (st := []) (X := v0) (mc := 0) (ms := 0) (fc := 0) (fs := 0) h ok_X12_finds cls12 im_X12_finds se_X12_finds ml_RX12_332 dX12_factor_1 rfl h1 h2 (Nat.le_of_ble_eq_true rfl) rfl ?_
  rintro r K1 H3 ⟨rfl, x4, rfl, h⟩ -
  show Fr mX12_factor (d + 1) 0 0 none 4 [(0, (2, v0))] [(0, x4)] _ H3 _
  refine r_if_ne (tgt := 14) dX12_factor_4 (by decide) (fun c5 => ?_) (fun c5 => ?_)
  · replace h := h.1 c5
    refine r_aload_n 0 dX12_factor_14 rfl rfl ?_
    refine r_iconst dX12_factor_15 (by decide) (by decide) ?_
    refine r_putf cls12 2 dX12_factor_16 (by decide) rfl fl_RX12_93 rfl h1 h2 (fun o => o) ?_
    replace h := h _ rfl
    generalize upA H3 (v0 : Int).toNat (up1 (H3 (v0 : Int).toNat) 2 0) = H6 at h ⊢
    refine r_aload_n 0 dX12_factor_19 rfl rfl ?_
    refine r_aload_n 0 dX12_factor_20 rfl rfl ?_
    refine r_iconst dX12_factor_21 (by decide) (by decide) ?_
    refine r_invV (M := mX12_factor) (As := [(0, 0)]) (st := [(2, v0)]) (X := v0) (mc := 0) (ms := 0) (fc := 0) (fs := 0) h ok_X12_held cls12 im_X12_held se_X12_held ml_RX12_326 dX12_factor_22 rfl h1 h2 (Nat.le_of_ble_eq_true rfl) rfl ?_
    rintro r K1 H7 ⟨rfl, x8, rfl, h⟩ -
    show Fr mX12_factor (d + 1) 0 0 none 25 [(0, (2, v0))] [(0, x8), (2, v0)] _ H7 _
    refine r_aload_n 0 dX12_factor_25 rfl rfl ?_
    refine r_iconst dX12_factor_26 (by decide) (by decide) ?_
    refine r_invV (M := mX12_factor) (As := [(0, 1)]) (st := [(0, x8), (2, v0)]) (X := v0) (mc := 0) (ms := 0) (fc := 0) (fs := 0) h ok_X12_held cls12 im_X12_held se_X12_held ml_RX12_326 dX12_factor_27 rfl h1 h2 (Nat.le_of_ble_eq_true rfl) rfl ?_
    rintro r K1 H9 ⟨rfl, x10, rfl, h⟩ -
    show Fr mX12_factor (d + 1) 0 0 none 30 [(0, (2, v0))] [(0, x10), (0, x8), (2, v0)] _ H9 _
    refine r_invV (M := mX12_factor) (As := [(0, x8), (0, x10)]) (st := []) (X := v0) (mc := 0) (ms := 0) (fc := 0) (fs := 0) h ok_X12_tells cls12 im_X12_tells se_X12_tells ml_RX12_239 dX12_factor_30 rfl h1 h2 (Nat.le_of_ble_eq_true rfl) rfl ?_
    rintro r K1 H11 ⟨rfl, x12, rfl, h⟩ -
    show Fr mX12_factor (d + 1) 0 0 none 33 [(0, (2, v0))] [(0, x12)] _ H11 _
    exact r_iret dX12_factor_33 rfl ⟨rfl, _, rfl, h⟩
  · replace h := h.2 c5
    refine r_aload_n 0 dX12_factor_7 rfl rfl ?_
    refine r_bipush dX12_factor_8 (by decide) (by decide) ?_
    refine r_invV (M := mX12_factor) (As := [(0, 6)]) (st := []) (X := v0) (mc := 0) (ms := 0) (fc := 0) (fs := 0) h ok_X12_refuse cls12 im_X12_refuse se_X12_refuse ml_RX12_184 dX12_factor_10 rfl h1 h2 (Nat.le_of_ble_eq_true rfl) rfl ?_
    rintro r K1 H13 ⟨rfl, x14, rfl, h⟩ -
    show Fr mX12_factor (d + 1) 0 0 none 13 [(0, (2, v0))] [(0, x14)] _ H13 _
    exact r_iret dX12_factor_13 rfl ⟨rfl, _, rfl, h⟩
set_option maxHeartbeats 4000000 in
set_option maxRecDepth 20000 in
theorem eX12_factor {d : Nat} {K : Shp} {H : Mem} {q : Int → Mem → Prop} {v0 : Int} (h : Rng K H → FX12_factor_0 d K H q v0) : Ci mX12_factor (d + 1) [(2, v0)] K H q := Call.of rfl (Nat.le_of_ble_eq_true rfl) (fun o r => h  r)
def FX12_weakest_0 (d : Nat) (K : Shp) (H : Mem) (q : Int → Mem → Prop) (v0 : Int) : Prop := Fr mX12_weakest (d + 1) 0 0 none 0 [(0, (2, v0))] [] K H (qi K q)
set_option maxHeartbeats 4000000 in
set_option maxRecDepth 20000 in
theorem bX12_weakest_0 {d : Nat} {K : Shp} {H : Mem} {q : Int → Mem → Prop} {v0 : Int} (h : ((0 : Int) ≤ v0) ∧ (K[(v0 : Int).toNat]? = some (12, 51)) ∧ Ci mX12_finds d [(2, v0)] K H (fun x4 H3 => ((¬ (x4 : Int) = 0 → ∀ H6 : Mem, H6 = upA H3 (v0 : Int).toNat (up1 (H3 (v0 : Int).toNat) 0 0) → q (H6 (v0 : Int).toNat 50) H6) ∧ ((x4 : Int) = 0 → Ci mX12_refuse d [(2, v0), (0, 6)] K H3 (fun x8 H7 => q x8 H7))))) : FX12_weakest_0 d K H q (v0) := by
  unfold FX12_weakest_0
  refine r_aload_n 0 dX12_weakest_0 rfl rfl ?_
  obtain ⟨h1, h⟩ := h
  obtain ⟨h2, h⟩ := h
  refine r_invV (M := mX12_weakest) (As := []) (st := []) (X := v0) (mc := 0) (ms := 0) (fc := 0) (fs := 0) h ok_X12_finds cls12 im_X12_finds se_X12_finds ml_RX12_332 dX12_weakest_1 rfl h1 h2 (Nat.le_of_ble_eq_true rfl) rfl ?_
  rintro r K1 H3 ⟨rfl, x4, rfl, h⟩ -
  show Fr mX12_weakest (d + 1) 0 0 none 4 [(0, (2, v0))] [(0, x4)] _ H3 _
  refine r_if_ne (tgt := 14) dX12_weakest_4 (by decide) (fun c5 => ?_) (fun c5 => ?_)
  · replace h := h.1 c5
    refine r_aload_n 0 dX12_weakest_14 rfl rfl ?_
    refine r_iconst dX12_weakest_15 (by decide) (by decide) ?_
    refine r_putf cls12 0 dX12_weakest_16 (by decide) rfl fl_RX12_89 rfl h1 h2 (fun o => o) ?_
    replace h := h _ rfl
    generalize upA H3 (v0 : Int).toNat (up1 (H3 (v0 : Int).toNat) 0 0) = H6 at h ⊢
    refine r_aload_n 0 dX12_weakest_19 rfl rfl ?_
    refine r_getf cls12 50 dX12_weakest_20 (by decide) fl_RX12_323 rfl h1 h2 ?_
    exact r_iret dX12_weakest_23 rfl ⟨rfl, _, rfl, h⟩
  · replace h := h.2 c5
    refine r_aload_n 0 dX12_weakest_7 rfl rfl ?_
    refine r_bipush dX12_weakest_8 (by decide) (by decide) ?_
    refine r_invV (M := mX12_weakest) (As := [(0, 6)]) (st := []) (X := v0) (mc := 0) (ms := 0) (fc := 0) (fs := 0) h ok_X12_refuse cls12 im_X12_refuse se_X12_refuse ml_RX12_184 dX12_weakest_10 rfl h1 h2 (Nat.le_of_ble_eq_true rfl) rfl ?_
    rintro r K1 H7 ⟨rfl, x8, rfl, h⟩ -
    show Fr mX12_weakest (d + 1) 0 0 none 13 [(0, (2, v0))] [(0, x8)] _ H7 _
    exact r_iret dX12_weakest_13 rfl ⟨rfl, _, rfl, h⟩
set_option maxHeartbeats 4000000 in
set_option maxRecDepth 20000 in
theorem eX12_weakest {d : Nat} {K : Shp} {H : Mem} {q : Int → Mem → Prop} {v0 : Int} (h : Rng K H → FX12_weakest_0 d K H q v0) : Ci mX12_weakest (d + 1) [(2, v0)] K H q := Call.of rfl (Nat.le_of_ble_eq_true rfl) (fun o r => h  r)
